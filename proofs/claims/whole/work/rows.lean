section
-- ===== PART A: goes FIRST, ahead of the names: the tables' words, and 'selects' of the private methods out of them =====
/-- a private method of a class that the tables say can be made, by its rows of tables_1 -/
def lw_okq (q : MethodName × Nat) : Prop := (q.1.cls ≠ "java/lang/invoke/MethodHandle" ∧ q.1.cls ≠ "java/lang/invoke/VarHandle") ∧ Cond.instantiable q.1.cls q.2 ∈ tables_1 ∧ Cond.privateMethod q.1 ∈ tables_1 ∧ Cond.instanceMethod q.1 ∈ tables_1
theorem lw_p0 : lw_okq (⟨"SaidInWinter", "shelfAt", "(I)LSaidInWinter$Shelf;"⟩, 9) := ⟨⟨by decide +kernel, by decide +kernel⟩, List.mem_of_getElem? (i := 25) (by decide +kernel), List.mem_of_getElem? (i := 203) (by decide +kernel), List.mem_of_getElem? (i := 204) (by decide +kernel)⟩
theorem lw_p1 : lw_okq (⟨"SaidInWinter", "readStatements", "(LSaidInWinter$Shelf;)I"⟩, 9) := ⟨⟨by decide +kernel, by decide +kernel⟩, List.mem_of_getElem? (i := 25) (by decide +kernel), List.mem_of_getElem? (i := 234) (by decide +kernel), List.mem_of_getElem? (i := 235) (by decide +kernel)⟩
theorem lw_p2 : lw_okq (⟨"SaidInWinter", "doStatement", "(LSaidInWinter$Shelf;I)I"⟩, 9) := ⟨⟨by decide +kernel, by decide +kernel⟩, List.mem_of_getElem? (i := 25) (by decide +kernel), List.mem_of_getElem? (i := 246) (by decide +kernel), List.mem_of_getElem? (i := 247) (by decide +kernel)⟩
theorem lw_p3 : lw_okq (⟨"SaidInWinter", "seenInAll", "(I)I"⟩, 9) := ⟨⟨by decide +kernel, by decide +kernel⟩, List.mem_of_getElem? (i := 25) (by decide +kernel), List.mem_of_getElem? (i := 485) (by decide +kernel), List.mem_of_getElem? (i := 486) (by decide +kernel)⟩
theorem lw_p4 : lw_okq (⟨"SaidInWinter", "leastNext", "(II)I"⟩, 9) := ⟨⟨by decide +kernel, by decide +kernel⟩, List.mem_of_getElem? (i := 25) (by decide +kernel), List.mem_of_getElem? (i := 594) (by decide +kernel), List.mem_of_getElem? (i := 595) (by decide +kernel)⟩
theorem lw_p5 : lw_okq (⟨"SaidInWinter", "drawBelow", "(I)I"⟩, 9) := ⟨⟨by decide +kernel, by decide +kernel⟩, List.mem_of_getElem? (i := 25) (by decide +kernel), List.mem_of_getElem? (i := 612) (by decide +kernel), List.mem_of_getElem? (i := 613) (by decide +kernel)⟩
theorem lw_p6 : lw_okq (⟨"SaidInWinter", "happen", "(I)V"⟩, 9) := ⟨⟨by decide +kernel, by decide +kernel⟩, List.mem_of_getElem? (i := 25) (by decide +kernel), List.mem_of_getElem? (i := 619) (by decide +kernel), List.mem_of_getElem? (i := 620) (by decide +kernel)⟩
theorem lw_p7 : lw_okq (⟨"SaidInWinter", "freezeDrawn", "()V"⟩, 9) := ⟨⟨by decide +kernel, by decide +kernel⟩, List.mem_of_getElem? (i := 25) (by decide +kernel), List.mem_of_getElem? (i := 623) (by decide +kernel), List.mem_of_getElem? (i := 624) (by decide +kernel)⟩
theorem lw_p8 : lw_okq (⟨"SaidInWinter", "firstWrong", "(LSaidInWinter$Shelf;)I"⟩, 9) := ⟨⟨by decide +kernel, by decide +kernel⟩, List.mem_of_getElem? (i := 25) (by decide +kernel), List.mem_of_getElem? (i := 636) (by decide +kernel), List.mem_of_getElem? (i := 637) (by decide +kernel)⟩
theorem lw_p9 : lw_okq (⟨"java/lang/Throwable", "fillInStackTrace", "(I)Ljava/lang/Throwable;"⟩, 6) := ⟨⟨by decide +kernel, by decide +kernel⟩, List.mem_of_getElem? (i := 799) (by decide +kernel), List.mem_of_getElem? (i := 797) (by decide +kernel), List.mem_of_getElem? (i := 798) (by decide +kernel)⟩
theorem lw_p10 : lw_okq (⟨"SaidInWinterModel", "carryAll", "([IZ)V"⟩, 29) := ⟨⟨by decide +kernel, by decide +kernel⟩, List.mem_of_getElem? (i := 885) (by decide +kernel), List.mem_of_getElem? (i := 988) (by decide +kernel), List.mem_of_getElem? (i := 989) (by decide +kernel)⟩
theorem lw_p11 : lw_okq (⟨"SaidInWinterModel", "carry", "(I)I"⟩, 29) := ⟨⟨by decide +kernel, by decide +kernel⟩, List.mem_of_getElem? (i := 885) (by decide +kernel), List.mem_of_getElem? (i := 992) (by decide +kernel), List.mem_of_getElem? (i := 993) (by decide +kernel)⟩
theorem lw_p12 : lw_okq (⟨"SaidInWinterModel", "iceOfAll", "()I"⟩, 29) := ⟨⟨by decide +kernel, by decide +kernel⟩, List.mem_of_getElem? (i := 885) (by decide +kernel), List.mem_of_getElem? (i := 996) (by decide +kernel), List.mem_of_getElem? (i := 997) (by decide +kernel)⟩
theorem lw_p13 : lw_okq (⟨"SaidInWinterModel", "iceOf", "(I)I"⟩, 29) := ⟨⟨by decide +kernel, by decide +kernel⟩, List.mem_of_getElem? (i := 885) (by decide +kernel), List.mem_of_getElem? (i := 1000) (by decide +kernel), List.mem_of_getElem? (i := 1001) (by decide +kernel)⟩
theorem lw_p14 : lw_okq (⟨"SaidInWinterModel", "wrongSort", "(II)I"⟩, 29) := ⟨⟨by decide +kernel, by decide +kernel⟩, List.mem_of_getElem? (i := 885) (by decide +kernel), List.mem_of_getElem? (i := 1012) (by decide +kernel), List.mem_of_getElem? (i := 1013) (by decide +kernel)⟩
theorem lw_p15 : lw_okq (⟨"SaidInWinterModel", "wrongRow", "(I)I"⟩, 29) := ⟨⟨by decide +kernel, by decide +kernel⟩, List.mem_of_getElem? (i := 885) (by decide +kernel), List.mem_of_getElem? (i := 1016) (by decide +kernel), List.mem_of_getElem? (i := 1017) (by decide +kernel)⟩
def lw_privs_1 : List (MethodName × Nat) := [(⟨"SaidInWinter", "shelfAt", "(I)LSaidInWinter$Shelf;"⟩, 9), (⟨"SaidInWinter", "readStatements", "(LSaidInWinter$Shelf;)I"⟩, 9), (⟨"SaidInWinter", "doStatement", "(LSaidInWinter$Shelf;I)I"⟩, 9), (⟨"SaidInWinter", "seenInAll", "(I)I"⟩, 9), (⟨"SaidInWinter", "leastNext", "(II)I"⟩, 9), (⟨"SaidInWinter", "drawBelow", "(I)I"⟩, 9), (⟨"SaidInWinter", "happen", "(I)V"⟩, 9), (⟨"SaidInWinter", "freezeDrawn", "()V"⟩, 9), (⟨"SaidInWinter", "firstWrong", "(LSaidInWinter$Shelf;)I"⟩, 9), (⟨"java/lang/Throwable", "fillInStackTrace", "(I)Ljava/lang/Throwable;"⟩, 6), (⟨"SaidInWinterModel", "carryAll", "([IZ)V"⟩, 29), (⟨"SaidInWinterModel", "carry", "(I)I"⟩, 29), (⟨"SaidInWinterModel", "iceOfAll", "()I"⟩, 29), (⟨"SaidInWinterModel", "iceOf", "(I)I"⟩, 29), (⟨"SaidInWinterModel", "wrongSort", "(II)I"⟩, 29), (⟨"SaidInWinterModel", "wrongRow", "(I)I"⟩, 29)]
theorem lw_r1 : ∀ q ∈ lw_privs_1, lw_okq q := List.forall_mem_cons.mpr ⟨lw_p0, List.forall_mem_cons.mpr ⟨lw_p1, List.forall_mem_cons.mpr ⟨lw_p2, List.forall_mem_cons.mpr ⟨lw_p3, List.forall_mem_cons.mpr ⟨lw_p4, List.forall_mem_cons.mpr ⟨lw_p5, List.forall_mem_cons.mpr ⟨lw_p6, List.forall_mem_cons.mpr ⟨lw_p7, List.forall_mem_cons.mpr ⟨lw_p8, List.forall_mem_cons.mpr ⟨lw_p9, List.forall_mem_cons.mpr ⟨lw_p10, List.forall_mem_cons.mpr ⟨lw_p11, List.forall_mem_cons.mpr ⟨lw_p12, List.forall_mem_cons.mpr ⟨lw_p13, List.forall_mem_cons.mpr ⟨lw_p14, List.forall_mem_cons.mpr ⟨lw_p15, fun _ h => absurd h List.not_mem_nil⟩⟩⟩⟩⟩⟩⟩⟩⟩⟩⟩⟩⟩⟩⟩⟩
theorem lw_p16 : lw_okq (⟨"SaidInWinterModel", "readStatement", "()V"⟩, 29) := ⟨⟨by decide +kernel, by decide +kernel⟩, List.mem_of_getElem? (i := 885) (by decide +kernel), List.mem_of_getElem? (i := 1024) (by decide +kernel), List.mem_of_getElem? (i := 1025) (by decide +kernel)⟩
theorem lw_p17 : lw_okq (⟨"SaidInWinterModel", "here", "()I"⟩, 29) := ⟨⟨by decide +kernel, by decide +kernel⟩, List.mem_of_getElem? (i := 885) (by decide +kernel), List.mem_of_getElem? (i := 1028) (by decide +kernel), List.mem_of_getElem? (i := 1029) (by decide +kernel)⟩
theorem lw_p18 : lw_okq (⟨"SaidInWinterModel", "readDigit", "()I"⟩, 29) := ⟨⟨by decide +kernel, by decide +kernel⟩, List.mem_of_getElem? (i := 885) (by decide +kernel), List.mem_of_getElem? (i := 1032) (by decide +kernel), List.mem_of_getElem? (i := 1033) (by decide +kernel)⟩
theorem lw_p19 : lw_okq (⟨"SaidInWinterModel", "open", "()V"⟩, 29) := ⟨⟨by decide +kernel, by decide +kernel⟩, List.mem_of_getElem? (i := 885) (by decide +kernel), List.mem_of_getElem? (i := 1038) (by decide +kernel), List.mem_of_getElem? (i := 1039) (by decide +kernel)⟩
theorem lw_p20 : lw_okq (⟨"SaidInWinterModel", "comes", "(I)Z"⟩, 29) := ⟨⟨by decide +kernel, by decide +kernel⟩, List.mem_of_getElem? (i := 885) (by decide +kernel), List.mem_of_getElem? (i := 1042) (by decide +kernel), List.mem_of_getElem? (i := 1043) (by decide +kernel)⟩
theorem lw_p21 : lw_okq (⟨"SaidInWinterModel", "freezes", "(IIII)Z"⟩, 29) := ⟨⟨by decide +kernel, by decide +kernel⟩, List.mem_of_getElem? (i := 885) (by decide +kernel), List.mem_of_getElem? (i := 1046) (by decide +kernel), List.mem_of_getElem? (i := 1047) (by decide +kernel)⟩
theorem lw_p22 : lw_okq (⟨"SaidInWinterModel", "warmDay", "()I"⟩, 29) := ⟨⟨by decide +kernel, by decide +kernel⟩, List.mem_of_getElem? (i := 885) (by decide +kernel), List.mem_of_getElem? (i := 1053) (by decide +kernel), List.mem_of_getElem? (i := 1054) (by decide +kernel)⟩
theorem lw_p23 : lw_okq (⟨"SaidInWinterModel", "cuts", "(II)I"⟩, 29) := ⟨⟨by decide +kernel, by decide +kernel⟩, List.mem_of_getElem? (i := 885) (by decide +kernel), List.mem_of_getElem? (i := 1060) (by decide +kernel), List.mem_of_getElem? (i := 1061) (by decide +kernel)⟩
theorem lw_p24 : lw_okq (⟨"SaidInWinterModel", "drifts", "()V"⟩, 29) := ⟨⟨by decide +kernel, by decide +kernel⟩, List.mem_of_getElem? (i := 885) (by decide +kernel), List.mem_of_getElem? (i := 1064) (by decide +kernel), List.mem_of_getElem? (i := 1065) (by decide +kernel)⟩
theorem lw_p25 : lw_okq (⟨"SaidInWinterModel", "swapInts", "([III)V"⟩, 29) := ⟨⟨by decide +kernel, by decide +kernel⟩, List.mem_of_getElem? (i := 885) (by decide +kernel), List.mem_of_getElem? (i := 1068) (by decide +kernel), List.mem_of_getElem? (i := 1069) (by decide +kernel)⟩
theorem lw_p26 : lw_okq (⟨"SaidInWinterModel", "close", "()V"⟩, 29) := ⟨⟨by decide +kernel, by decide +kernel⟩, List.mem_of_getElem? (i := 885) (by decide +kernel), List.mem_of_getElem? (i := 1072) (by decide +kernel), List.mem_of_getElem? (i := 1073) (by decide +kernel)⟩
theorem lw_p27 : lw_okq (⟨"SaidInWinterModel", "wrongLayer", "(I)I"⟩, 29) := ⟨⟨by decide +kernel, by decide +kernel⟩, List.mem_of_getElem? (i := 885) (by decide +kernel), List.mem_of_getElem? (i := 1085) (by decide +kernel), List.mem_of_getElem? (i := 1086) (by decide +kernel)⟩
theorem lw_p28 : lw_okq (⟨"SaidInWinterModel", "isLayer", "(II)Z"⟩, 29) := ⟨⟨by decide +kernel, by decide +kernel⟩, List.mem_of_getElem? (i := 885) (by decide +kernel), List.mem_of_getElem? (i := 1110) (by decide +kernel), List.mem_of_getElem? (i := 1111) (by decide +kernel)⟩
theorem lw_p29 : lw_okq (⟨"SaidInWinterModel", "depthOf", "(II)I"⟩, 29) := ⟨⟨by decide +kernel, by decide +kernel⟩, List.mem_of_getElem? (i := 885) (by decide +kernel), List.mem_of_getElem? (i := 1114) (by decide +kernel), List.mem_of_getElem? (i := 1115) (by decide +kernel)⟩
theorem lw_p30 : lw_okq (⟨"SaidInWinterModel", "isRead", "(II)Z"⟩, 29) := ⟨⟨by decide +kernel, by decide +kernel⟩, List.mem_of_getElem? (i := 885) (by decide +kernel), List.mem_of_getElem? (i := 1118) (by decide +kernel), List.mem_of_getElem? (i := 1119) (by decide +kernel)⟩
theorem lw_p31 : lw_okq (⟨"SaidInWinterModel", "seenBy", "(II)I"⟩, 29) := ⟨⟨by decide +kernel, by decide +kernel⟩, List.mem_of_getElem? (i := 885) (by decide +kernel), List.mem_of_getElem? (i := 1142) (by decide +kernel), List.mem_of_getElem? (i := 1143) (by decide +kernel)⟩
def lw_privs_2 : List (MethodName × Nat) := [(⟨"SaidInWinterModel", "readStatement", "()V"⟩, 29), (⟨"SaidInWinterModel", "here", "()I"⟩, 29), (⟨"SaidInWinterModel", "readDigit", "()I"⟩, 29), (⟨"SaidInWinterModel", "open", "()V"⟩, 29), (⟨"SaidInWinterModel", "comes", "(I)Z"⟩, 29), (⟨"SaidInWinterModel", "freezes", "(IIII)Z"⟩, 29), (⟨"SaidInWinterModel", "warmDay", "()I"⟩, 29), (⟨"SaidInWinterModel", "cuts", "(II)I"⟩, 29), (⟨"SaidInWinterModel", "drifts", "()V"⟩, 29), (⟨"SaidInWinterModel", "swapInts", "([III)V"⟩, 29), (⟨"SaidInWinterModel", "close", "()V"⟩, 29), (⟨"SaidInWinterModel", "wrongLayer", "(I)I"⟩, 29), (⟨"SaidInWinterModel", "isLayer", "(II)Z"⟩, 29), (⟨"SaidInWinterModel", "depthOf", "(II)I"⟩, 29), (⟨"SaidInWinterModel", "isRead", "(II)Z"⟩, 29), (⟨"SaidInWinterModel", "seenBy", "(II)I"⟩, 29)]
theorem lw_r2 : ∀ q ∈ lw_privs_2, lw_okq q := List.forall_mem_cons.mpr ⟨lw_p16, List.forall_mem_cons.mpr ⟨lw_p17, List.forall_mem_cons.mpr ⟨lw_p18, List.forall_mem_cons.mpr ⟨lw_p19, List.forall_mem_cons.mpr ⟨lw_p20, List.forall_mem_cons.mpr ⟨lw_p21, List.forall_mem_cons.mpr ⟨lw_p22, List.forall_mem_cons.mpr ⟨lw_p23, List.forall_mem_cons.mpr ⟨lw_p24, List.forall_mem_cons.mpr ⟨lw_p25, List.forall_mem_cons.mpr ⟨lw_p26, List.forall_mem_cons.mpr ⟨lw_p27, List.forall_mem_cons.mpr ⟨lw_p28, List.forall_mem_cons.mpr ⟨lw_p29, List.forall_mem_cons.mpr ⟨lw_p30, List.forall_mem_cons.mpr ⟨lw_p31, fun _ h => absurd h List.not_mem_nil⟩⟩⟩⟩⟩⟩⟩⟩⟩⟩⟩⟩⟩⟩⟩⟩
theorem lw_p32 : lw_okq (⟨"SaidInWinterModel", "seenIn", "(II)I"⟩, 29) := ⟨⟨by decide +kernel, by decide +kernel⟩, List.mem_of_getElem? (i := 885) (by decide +kernel), List.mem_of_getElem? (i := 1146) (by decide +kernel), List.mem_of_getElem? (i := 1147) (by decide +kernel)⟩
theorem lw_p33 : lw_okq (⟨"SaidInWinterModel", "lastsOf", "(II)I"⟩, 29) := ⟨⟨by decide +kernel, by decide +kernel⟩, List.mem_of_getElem? (i := 885) (by decide +kernel), List.mem_of_getElem? (i := 1162) (by decide +kernel), List.mem_of_getElem? (i := 1163) (by decide +kernel)⟩
theorem lw_p34 : lw_okq (⟨"SaidInWinterModel", "isThin", "(II)Z"⟩, 29) := ⟨⟨by decide +kernel, by decide +kernel⟩, List.mem_of_getElem? (i := 885) (by decide +kernel), List.mem_of_getElem? (i := 1178) (by decide +kernel), List.mem_of_getElem? (i := 1179) (by decide +kernel)⟩
theorem lw_p35 : lw_okq (⟨"SaidInWinterModel", "lowestOf", "(II)I"⟩, 29) := ⟨⟨by decide +kernel, by decide +kernel⟩, List.mem_of_getElem? (i := 885) (by decide +kernel), List.mem_of_getElem? (i := 1182) (by decide +kernel), List.mem_of_getElem? (i := 1183) (by decide +kernel)⟩
theorem lw_p36 : lw_okq (⟨"SaidInWinterModel", "layerAt", "(II)I"⟩, 29) := ⟨⟨by decide +kernel, by decide +kernel⟩, List.mem_of_getElem? (i := 885) (by decide +kernel), List.mem_of_getElem? (i := 1191) (by decide +kernel), List.mem_of_getElem? (i := 1192) (by decide +kernel)⟩
theorem lw_p37 : lw_okq (⟨"SaidInWinterModel", "oathBits", "()I"⟩, 29) := ⟨⟨by decide +kernel, by decide +kernel⟩, List.mem_of_getElem? (i := 885) (by decide +kernel), List.mem_of_getElem? (i := 1203) (by decide +kernel), List.mem_of_getElem? (i := 1204) (by decide +kernel)⟩
theorem lw_p38 : lw_okq (⟨"SaidInWinterModel", "aheadOf", "(I)I"⟩, 29) := ⟨⟨by decide +kernel, by decide +kernel⟩, List.mem_of_getElem? (i := 885) (by decide +kernel), List.mem_of_getElem? (i := 1207) (by decide +kernel), List.mem_of_getElem? (i := 1208) (by decide +kernel)⟩
theorem lw_p39 : lw_okq (⟨"SaidInWinterModel", "draw", "(I)I"⟩, 29) := ⟨⟨by decide +kernel, by decide +kernel⟩, List.mem_of_getElem? (i := 885) (by decide +kernel), List.mem_of_getElem? (i := 1220) (by decide +kernel), List.mem_of_getElem? (i := 1221) (by decide +kernel)⟩
theorem lw_p40 : lw_okq (⟨"SaidInWinterModel", "skippedIn", "(I)J"⟩, 29) := ⟨⟨by decide +kernel, by decide +kernel⟩, List.mem_of_getElem? (i := 885) (by decide +kernel), List.mem_of_getElem? (i := 1231) (by decide +kernel), List.mem_of_getElem? (i := 1232) (by decide +kernel)⟩
def lw_privs_3 : List (MethodName × Nat) := [(⟨"SaidInWinterModel", "seenIn", "(II)I"⟩, 29), (⟨"SaidInWinterModel", "lastsOf", "(II)I"⟩, 29), (⟨"SaidInWinterModel", "isThin", "(II)Z"⟩, 29), (⟨"SaidInWinterModel", "lowestOf", "(II)I"⟩, 29), (⟨"SaidInWinterModel", "layerAt", "(II)I"⟩, 29), (⟨"SaidInWinterModel", "oathBits", "()I"⟩, 29), (⟨"SaidInWinterModel", "aheadOf", "(I)I"⟩, 29), (⟨"SaidInWinterModel", "draw", "(I)I"⟩, 29), (⟨"SaidInWinterModel", "skippedIn", "(I)J"⟩, 29)]
theorem lw_r3 : ∀ q ∈ lw_privs_3, lw_okq q := List.forall_mem_cons.mpr ⟨lw_p32, List.forall_mem_cons.mpr ⟨lw_p33, List.forall_mem_cons.mpr ⟨lw_p34, List.forall_mem_cons.mpr ⟨lw_p35, List.forall_mem_cons.mpr ⟨lw_p36, List.forall_mem_cons.mpr ⟨lw_p37, List.forall_mem_cons.mpr ⟨lw_p38, List.forall_mem_cons.mpr ⟨lw_p39, List.forall_mem_cons.mpr ⟨lw_p40, fun _ h => absurd h List.not_mem_nil⟩⟩⟩⟩⟩⟩⟩⟩⟩
def lw_privs : List (MethodName × Nat) := lw_privs_1 ++ (lw_privs_2 ++ (lw_privs_3))
def lw_tbl : List Cond := k2_sels lw_privs ++ tables_1
theorem lw_privs_ok : ∀ q ∈ lw_privs, lw_okq q := by
  show ∀ q ∈ lw_privs_1 ++ (lw_privs_2 ++ (lw_privs_3)), lw_okq q
  exact List.forall_mem_append.mpr ⟨lw_r1, List.forall_mem_append.mpr ⟨lw_r2, lw_r3⟩⟩
end
section
/-! ===== BEGIN words of one list among another's, by their places ===== -/
theorem goodIn_r {big : List Cond} (ws : List Cond) (ps : List Nat) (hp : ws = ps.filterMap (fun i => big[i]?)) (h : ws.all goodWord = true) : GoodIn big ws := by
  intro w hw
  have h1 := List.all_eq_true.mp h w hw
  rw [hp] at hw
  obtain ⟨i, -, hi⟩ := List.mem_filterMap.mp hw
  have hm : w ∈ big := by first | exact List.mem_of_getElem? hi | exact List.getElem?_mem hi
  exact ⟨hm, good_of_word h1⟩
theorem goodIn_app {big a b : List Cond} (ha : GoodIn big a) (hb : GoodIn big b) : GoodIn big (a ++ b) := fun w h => (List.mem_append.mp h).elim (ha w) (hb w)
theorem goodIn_ca {big a b : List Cond} {c : Cond} (ha : GoodIn big (c :: a)) (hb : GoodIn big b) : GoodIn big (c :: (a ++ b)) := fun w h => (List.mem_cons.mp h).elim (fun e => ha w (List.mem_cons.mpr (Or.inl e))) (fun h => (List.mem_append.mp h).elim (fun h => ha w (List.mem_cons.mpr (Or.inr h))) (hb w))
theorem goodIn_sub {big ws : List Cond} (hm : ∀ w ∈ ws, w ∈ big) (h : ws.all goodWord = true) : GoodIn big ws := fun w hw => ⟨hm w hw, good_of_word (List.all_eq_true.mp h w hw)⟩
/-! ===== END ===== -/

/-! ===== BEGIN exceptions that leave a method, and their catching by the caller (launches without stack traces) ===== -/
section VXA
/-! The laws vx_back, vx_callV, vx_callS, vx_callSW, vx_throw0, vx_throwS follow proofs of the library, with one case more: JvmDerived/Free/Laws.lean (Back.of_free), Shelf42/LK1.lean (callV, callS), Shelf/KitTraced.lean (throwNew0V, throwNewS). -/
/-- where a method has thrown q: the class by its name, the cell, what was written, the world -/
def vx_T (XC : String → State → State → Prop) (st : State) (q : Addr) (t : State) (mc ms : Nat) (free : Addr → Prop) : Prop :=
  ∃ (E : String) (ce : Cell) (L : List Loc), XC E st t ∧ t.heap[q]? = some ce ∧ ce.vm = .none ∧ st.vm.findClass E = some ce.cls ∧ st.WarmedH t.vm ∧ st.sameButNew ({ t with vm := st.vm } : State) L mc ms ∧ ∀ z ∈ L, free z.base
def vx_Q (Qc : Array Value → State → Outcome → State → Prop) (XC : String → State → State → Prop) (mc ms : Nat) (free : Addr → Prop) : Array Value → State → Outcome → State → Prop := fun a st o t =>
  (Qc a st o t ∧ ∃ L, FrameEnd st o t L mc ms ∧ ∀ q ∈ L, free q.base) ∨ ∃ q, o = .threw q ∧ vx_T XC st q t mc ms free
/-- a callee that returns or throws -/
def vx_Met (l : Launch) (y : MethodName) (ws : List Cond) (rm : Room) (Pc : Array Value → State → Prop) (Qc : Array Value → State → Outcome → State → Prop) (XC : String → State → State → Prop) (mc ms : Nat) (free : Addr → Prop) : Prop :=
  MetFree l y (headSpec ws rm) Pc (fun _ _ _ _ _ => True) (vx_Q Qc XC mc ms free)
def vx_Post (XC : String → State → State → Prop) (mc ms : Nat) (free : Addr → Prop) : Pt → Array Value → Addr → Pt → Prop := fun A a q B =>
  ∃ (g : JFrame) (mk : MethodId) (t : State) (L : List Loc) (E : String) (ce : Cell), B.U.heap = t.heap ∧ B.U.vm = t.vm ∧ XC E (A.U.calling g mk a) t ∧ t.heap[q]? = some ce ∧ ce.vm = .none ∧ A.U.vm.findClass E = some ce.cls ∧ B.locs = A.locs ++ L ∧ (∀ z ∈ L, free z.base) ∧ B.cells = A.cells + mc ∧ B.slots = A.slots + ms
def vx_Back (l : Launch) (R : Room) (p : Program) (e : Env) (below : List Frame) (s : State) (sargs : Array Value) (y : MethodName) (len W9 : Nat)
    (Pre : Pt → Array Value → Prop) (Post : Pt → Array Value → Option Value → Pt → Prop) (PostX : Pt → Array Value → Addr → Pt → Prop) : Prop :=
  ∀ (m : MethodId) (meth : Method) (c : Code) (A : Pt) (g : JFrame) (ig : Instr) (mk : MethodId) (a : Array Value),
    Stand p l e R s m sargs below meth c A.U A.locs A.cells A.slots → g.method = m → g.locals.size = c.maxLocals → decode c.code g.pc = .ok (ig, len) →
    2 * g.monitorRoom + (g.stack.map fun v => v.category).sum ≤ W9 → A.U.methodNamed? y = some mk → Pre A a →
    (∃ (v : Option Value) (B : Pt), Stand p l e R s m sargs below meth c B.U B.locs B.cells B.slots ∧ Post A a v B ∧
      Steps p.tables e below (doInvoke e (A.U.setTop g) [] mk a).1 (B.U.setTop { g with pc := g.pc + len, stack := v.toList ++ g.stack })) ∨
    (∃ (q : Addr) (B : Pt), Stand p l e R s m sargs below meth c B.U B.locs B.cells B.slots ∧ PostX A a q B ∧
      Steps p.tables e below (doInvoke e (A.U.setTop g) [] mk a).1 ((B.U.setTop g).pushFrame (.throwing q)))
section Payer
variable {l : Launch} {R : Room} {p : Program} {e : Env} {below : List Frame} {s : State} {sargs : Array Value} {y : MethodName} {len W9 : Nat}
theorem vx_back {ws : List Cond} {rm : Room} {Pc : Array Value → State → Prop} {Qc : Array Value → State → Outcome → State → Prop} {XC : String → State → State → Prop} {mc ms : Nat} {free : Addr → Prop} {bytes : ByteArray} {maxL : Nat} {ret : Option FieldType}
    (hM : vx_Met l y ws rm Pc Qc XC mc ms free) (hblind : FrameBlind Pc) (hrc : rm.cells = mc) (hrs : rm.slots = ms)
    (hframes : rm.frames + 1 ≤ R.frames) (hlocals : W9 + (maxL + 11) + rm.locals ≤ R.locals)
    (hws : ∀ w ∈ ws, ∀ a' U, s.WarmedH U.vm → w.before a' U = true) (hcode : Cond.code y bytes maxL ret ∈ ws) (hinit : ∀ a' U, s.WarmedH U.vm → (Cond.initialized y.cls).before a' U = true) :
    vx_Back l R p e below s sargs y len W9 (PreOf R mc ms Pc) (PostOf Qc mc ms free) (vx_Post XC mc ms free) := by
  intro m meth c A g ig mk a X hg hsize hdg hW hn hp
  have h1 : (headSpec ws rm).pre.before a A.U = true := atoms_intro fun w hw => hws w hw _ _ X.warmed
  have h2 : (Cond.code y bytes maxL ret).before a A.U = true := hws _ hcode _ _ X.warmed
  have h3 : (Cond.initialized y.cls).before a A.U = true := hinit _ _ X.warmed
  have h4 : A.cells + (headSpec ws rm).room.cells ≤ R.cells := by rw [show (headSpec ws rm).room.cells = mc from hrc]; exact hp.1
  have h5 : A.slots + (headSpec ws rm).room.slots ≤ R.slots := by rw [show (headSpec ws rm).room.slots = ms from hrs]; exact hp.2.1
  have hPc : Pc a (A.U.calling g mk a) := hblind _ _ _ _ hp.2.2
  obtain ⟨U, Ls, c0, s0⟩ := A
  dsimp only [Pt.U, Pt.locs, Pt.cells, Pt.slots] at h1 h2 h3 h4 h5 X hn hPc ⊢
  obtain ⟨methY, cY, hmY, hcY, -, hlY, -, -, -, -⟩ := Cond.code_spec hn h2
  obtain ⟨kY, hkY, -⟩ := className_of_methodNamed hn
  have hinitY : kY.init = .initialized := Cond.initialized_spec (findClass_of_methodNamed hn) hkY h3
  have h : At U g.method c below := by rw [hg]; exact X.here
  have hlocals9 : W9 + (maxL + 11) + (headSpec ws rm).room.locals ≤ R.locals := hlocals
  have happ : (headSpec ws rm).appliesLoose y e.platform (U.calling g mk a) = true :=
    Spec.appliesLoose_calling (g := g) h hdg hn hkY hinitY
      (X.room_calling (g := g) (R' := (headSpec ws rm).room) hsize hmY hcY hframes (by rw [hlY]; omega) h4 h5) h1
  obtain ⟨mid, hmid⟩ := h.above
  have hfr : (U.setTop g).frames = (.java g :: mid) ++ below := by rw [State.frames_setTop' g h.top, hmid]; rfl
  obtain ⟨o, s₂, hsteps, -, hend, hq⟩ := Steps.callFree hM p X.admits X.cas X.clock (acts := []) hfr happ hPc trivial
  have hq' : vx_Q Qc XC mc ms free a (U.calling g mk a) o s₂ := hq
  rw [State.frames_setTop' g h.top] at hend
  obtain ⟨g₀, hg0⟩ := Option.isSome_iff_exists.mp h.top
  obtain ⟨r, hr⟩ := State.topJava?_eq_some.mp hg0
  have hr' : (({ U with heap := s₂.heap, slotsUsed := s₂.slotsUsed } : State).setVm s₂.vm).frames = .java g₀ :: r := hr
  rcases hq' with ⟨hqc, L, hfe, hL⟩ | ⟨q, rfl, E, ce, L, hx, hce, hcv, hcl, hW₂, hsm, hL⟩
  · obtain ⟨⟨v, rfl⟩, hW₂, e2, q2, q3, q4, q5, q6⟩ := id hfe
    have e3 : s₂ = ({ (U.calling g mk a).setFrames s₂.frames with heap := s₂.heap, slotsUsed := s₂.slotsUsed } : State).setVm s₂.vm := by
      have : s₂ = ({ s₂ with vm := (U.calling g mk a).vm } : State).setVm s₂.vm := rfl
      rw [e2] at this
      exact this
    obtain ⟨c₂, i₂, len₂, hc₂, hd₂, hf₂⟩ := hend
    have hW' : U.WarmedH s₂.vm := hW₂
    have hcc : c₂ = c := by
      have h1 : s₂.code? g.method = U.code? g.method := by
        rw [State.code?_eq, State.code?_eq, hW'.alike.method?]
      exact Option.some.inj (hc₂.symm.trans (h1.trans h.code))
    subst hcc
    have hlen : len₂ = len := by rw [hdg] at hd₂; cases hd₂; rfl
    subst hlen
    have hs₂ : s₂ = (({ U with heap := s₂.heap, slotsUsed := s₂.slotsUsed } : State).setVm s₂.vm).setTop { g with pc := g.pc + len₂, stack := v.toList ++ g.stack } := by
      refine e3.trans ?_
      rw [hf₂, State.calling_eq h.top, State.setFrames_setFrames, State.setTop_of_frames _ hr', hr]
      rfl
    have hsame : U.sameButNew ({ U with heap := s₂.heap, slotsUsed := s₂.slotsUsed } : State) L mc ms := by
      refine ⟨?_, q2, q3, q4, q5, q6⟩
      obtain ⟨t, ht, -⟩ := State.frames_cons hr
      show ({ U with heap := s₂.heap, slotsUsed := s₂.slotsUsed } : State) = { U.setFrames U.frames with heap := s₂.heap, slotsUsed := s₂.slotsUsed }
      rw [State.setFrames_self ht]
    subst hg
    refine Or.inl ⟨v, ⟨(({ U with heap := s₂.heap, slotsUsed := s₂.slotsUsed } : State).setVm s₂.vm), Ls ++ L, c0 + mc, s0 + ms⟩,
      ⟨X.admits, X.cas, X.clock, X.frames, X.room, X.hears, X.method, X.code, (X.here.setHeapUsed s₂.heap s₂.slotsUsed).setVm hW'.alike, X.tail, State.WarmedH.trans X.warmed hW', X.limits, X.bytes, X.same.trans (hsame.setVm s.vm)⟩,
      ⟨g, mk, s₂, L, rfl, rfl, hqc, rfl, hL, rfl, rfl⟩, ?_⟩
    show Steps p.tables e below _ ((({ U with heap := s₂.heap, slotsUsed := s₂.slotsUsed } : State).setVm s₂.vm).setTop { g with pc := g.pc + len₂, stack := v.toList ++ g.stack })
    rw [← hs₂]
    exact hsteps
  · obtain ⟨e2, q2, q3, q4, q5, q6⟩ := id hsm
    have e3 : s₂ = ({ (U.calling g mk a).setFrames s₂.frames with heap := s₂.heap, slotsUsed := s₂.slotsUsed } : State).setVm s₂.vm := by
      have : s₂ = ({ s₂ with vm := (U.calling g mk a).vm } : State).setVm s₂.vm := rfl
      rw [e2] at this
      exact this
    have hf₂ : s₂.frames = .throwing q :: .java g :: U.frames.tail := hend
    have hW' : U.WarmedH s₂.vm := hW₂
    have hs₂ : s₂ = ((({ U with heap := s₂.heap, slotsUsed := s₂.slotsUsed } : State).setVm s₂.vm).setTop g).pushFrame (.throwing q) := by
      refine e3.trans ?_
      rw [hf₂, State.calling_eq h.top, State.setFrames_setFrames, State.pushFrame, State.frames_setTop _ hr', State.setTop_of_frames _ hr', State.setFrames_setFrames, hr]
      rfl
    have hsame : U.sameButNew ({ U with heap := s₂.heap, slotsUsed := s₂.slotsUsed } : State) L mc ms := by
      refine ⟨?_, q2, q3, q4, q5, q6⟩
      obtain ⟨t, ht, -⟩ := State.frames_cons hr
      show ({ U with heap := s₂.heap, slotsUsed := s₂.slotsUsed } : State) = { U.setFrames U.frames with heap := s₂.heap, slotsUsed := s₂.slotsUsed }
      rw [State.setFrames_self ht]
    subst hg
    refine Or.inr ⟨q, ⟨(({ U with heap := s₂.heap, slotsUsed := s₂.slotsUsed } : State).setVm s₂.vm), Ls ++ L, c0 + mc, s0 + ms⟩,
      ⟨X.admits, X.cas, X.clock, X.frames, X.room, X.hears, X.method, X.code, (X.here.setHeapUsed s₂.heap s₂.slotsUsed).setVm hW'.alike, X.tail, State.WarmedH.trans X.warmed hW', X.limits, X.bytes, X.same.trans (hsame.setVm s.vm)⟩,
      ⟨g, mk, s₂, L, E, ce, rfl, rfl, hx, hce, hcv, hcl, rfl, hL, rfl, rfl⟩, ?_⟩
    show Steps p.tables e below _ (((({ U with heap := s₂.heap, slotsUsed := s₂.slotsUsed } : State).setVm s₂.vm).setTop g).pushFrame (.throwing q))
    rw [← hs₂]
    exact hsteps
end Payer
section Calls
variable {p : Program} {l : Launch} {e : Env} {R : Room} {s : State} {m : MethodId} {args : Array Value} {below : List Frame} {meth : Method} {c : Code} {T : State} {locs : List Loc} {cells slots : Nat}
theorem vx_callV (X : Stand p l e R s m args below meth c T locs cells slots) (hexec : p.tables.exec = Jvm.exec) {own C : String} {index : Nat} {y : MethodName} {bytes : ByteArray} {maxL : Nat} {ret : Option FieldType}
    (hown : s.vm.findClass own = some m.cls) (hlink : (Cond.methodLink own index y).before args s = true) (hinst : (Cond.instanceMethod y).before args s = true) (hsel : (Cond.selects C y y).before args s = true)
    (hcode : (Cond.code y bytes maxL ret).before args s = true) (hy : y.cls ≠ "java/lang/invoke/MethodHandle" ∧ y.cls ≠ "java/lang/invoke/VarHandle")
    {W9 : Nat} {Pre : Pt → Array Value → Prop} {Post : Pt → Array Value → Option Value → Pt → Prop} {PostX : Pt → Array Value → Addr → Pt → Prop} (hK : vx_Back l R p e below s args y 3 W9 Pre Post PostX)
    {b : Addr} {cellB : Cell} (hcell : T.heap[b]? = some cellB) (hobj : cellB.vm.isStatics = false) (hcls : s.vm.findClass C = some cellB.cls)
    {g : JFrame} (hg : g.method = m) (hsize : g.locals.size = c.maxLocals) {argsL rest : List Value} (hlen : ∀ sig, parseMethodDescriptor y.desc = some sig → argsL.length = sig.parameters.length)
    (hstack : g.stack = argsL.reverse ++ .ref b :: rest) (hW : 2 * g.monitorRoom + (rest.map fun v => v.category).sum ≤ W9) (hdg : decode c.code g.pc = .ok (.invokevirtual index, 3))
    (hpre : ∀ vm₁, s.WarmedH vm₁ → Pre ⟨T.setVm vm₁, locs, cells, slots⟩ (Value.ref b :: argsL).toArray) :
    (∃ (v : Option Value) (vm₁ : Vm) (B : Pt), s.WarmedH vm₁ ∧ Stand p l e R s m args below meth c B.U B.locs B.cells B.slots ∧ Post ⟨T.setVm vm₁, locs, cells, slots⟩ (Value.ref b :: argsL).toArray v B ∧
      ∀ target, Steps p.tables e below (B.U.setTop { g with pc := g.pc + 3, stack := v.toList ++ rest }) target → Steps p.tables e below (T.setTop g) target) ∨
    (∃ (q : Addr) (vm₁ : Vm) (B : Pt), s.WarmedH vm₁ ∧ Stand p l e R s m args below meth c B.U B.locs B.cells B.slots ∧ PostX ⟨T.setVm vm₁, locs, cells, slots⟩ (Value.ref b :: argsL).toArray q B ∧
      Steps p.tables e below (T.setTop g) ((B.U.setTop { g with stack := rest }).pushFrame (.throwing q))) := by
  obtain ⟨mk, methM, hnamed, hmethM, hstM, habM⟩ := Cond.instanceMethod_spec hinst
  obtain ⟨methM', cM, hmethM', -, -, -, -, -, -, hsigM⟩ := Cond.code_spec hnamed hcode
  cases hmethM.symm.trans hmethM'
  obtain ⟨c2, r2, m2, q1, q2, q3, q4, kP, hkP, hkPi⟩ := Cond.selects_spec hsel
  cases hcls.symm.trans q1
  cases (State.methodFound?_of_named hnamed hy).symm.trans q2
  cases hnamed.symm.trans q3
  have hselP : selectMethod e.platform s.vm cellB.cls mk = .method mk := by rw [Launch.admits_selectMethod X.admits]; exact q4
  obtain ⟨vm₁, X₁, hstep₁⟩ := X.invokevirtual hexec hown hlink hnamed hmethM hstM hkP hkPi hy (a := b) (cell := cellB) hcell
    (fun z h => by rw [h] at hobj; cases hobj) hselP hmethM habM hkP hkPi (g := g) hg (argsL := argsL) (rest := rest) (hlen _ hsigM) hstack hdg
  rcases hK m meth c ⟨T.setVm vm₁, locs, cells, slots⟩ { g with stack := rest } (.invokevirtual index) mk (Value.ref b :: argsL).toArray X₁ hg hsize hdg hW (X₁.named hnamed) (hpre vm₁ X₁.warmed) with ⟨v, B, X', hpost, hsteps⟩ | ⟨q, B, X', hpost, hsteps⟩
  · exact Or.inl ⟨v, vm₁, B, X₁.warmed, X', hpost, fun target h => hstep₁ _ fun acts => by rw [doInvoke_state]; exact hsteps.trans h⟩
  · exact Or.inr ⟨q, vm₁, B, X₁.warmed, X', hpost, hstep₁ _ fun acts => by rw [doInvoke_state]; exact hsteps⟩
theorem vx_callS (X : Stand p l e R s m args below meth c T locs cells slots) (hexec : p.tables.exec = Jvm.exec) {own : String} {index : Nat} {y : MethodName} {bytes : ByteArray} {maxL : Nat} {ret : Option FieldType}
    (hown : s.vm.findClass own = some m.cls) (hlink : (Cond.methodLink own index y).before args s = true) (hstat : (Cond.static y).before args s = true) (hinit : (Cond.initialized y.cls).before args s = true)
    (hcode : (Cond.code y bytes maxL ret).before args s = true) (hy : y.cls ≠ "java/lang/invoke/MethodHandle" ∧ y.cls ≠ "java/lang/invoke/VarHandle")
    {W9 : Nat} {Pre : Pt → Array Value → Prop} {Post : Pt → Array Value → Option Value → Pt → Prop} {PostX : Pt → Array Value → Addr → Pt → Prop} (hK : vx_Back l R p e below s args y 3 W9 Pre Post PostX)
    {g : JFrame} (hg : g.method = m) (hsize : g.locals.size = c.maxLocals) {argsL rest : List Value} (hlen : ∀ sig, parseMethodDescriptor y.desc = some sig → argsL.length = sig.parameters.length)
    (hstack : g.stack = argsL.reverse ++ rest) (hW : 2 * g.monitorRoom + (rest.map fun v => v.category).sum ≤ W9) (hdg : decode c.code g.pc = .ok (.invokestatic index, 3))
    (hpre : ∀ vm₁, s.WarmedH vm₁ → Pre ⟨T.setVm vm₁, locs, cells, slots⟩ argsL.toArray) :
    (∃ (v : Option Value) (vm₁ : Vm) (B : Pt), s.WarmedH vm₁ ∧ Stand p l e R s m args below meth c B.U B.locs B.cells B.slots ∧ Post ⟨T.setVm vm₁, locs, cells, slots⟩ argsL.toArray v B ∧
      ∀ target, Steps p.tables e below (B.U.setTop { g with pc := g.pc + 3, stack := v.toList ++ rest }) target → Steps p.tables e below (T.setTop g) target) ∨
    (∃ (q : Addr) (vm₁ : Vm) (B : Pt), s.WarmedH vm₁ ∧ Stand p l e R s m args below meth c B.U B.locs B.cells B.slots ∧ PostX ⟨T.setVm vm₁, locs, cells, slots⟩ argsL.toArray q B ∧
      Steps p.tables e below (T.setTop g) ((B.U.setTop { g with stack := rest }).pushFrame (.throwing q))) := by
  obtain ⟨mk, hnamed⟩ := Cond.code_named hcode
  obtain ⟨methM, cM, hmethM, -, -, -, -, -, -, hsigM⟩ := Cond.code_spec hnamed hcode
  have hstatic : methM.isStatic = true := Cond.static_spec hnamed hmethM hstat
  obtain ⟨kP, hkP, -⟩ := className_of_methodNamed hnamed
  have hinitP : kP.init = .initialized := Cond.initialized_spec (findClass_of_methodNamed hnamed) hkP hinit
  obtain ⟨vm₁, X₁, hstep₁⟩ := X.invokestatic hexec hown hlink hnamed hmethM hstatic hkP hinitP hy (g := g) hg (argsL := argsL) (rest := rest) (hlen _ hsigM) hstack hdg
  rcases hK m meth c ⟨T.setVm vm₁, locs, cells, slots⟩ { g with stack := rest } (.invokestatic index) mk argsL.toArray X₁ hg hsize hdg hW (X₁.named hnamed) (hpre vm₁ X₁.warmed) with ⟨v, B, X', hpost, hsteps⟩ | ⟨q, B, X', hpost, hsteps⟩
  · exact Or.inl ⟨v, vm₁, B, X₁.warmed, X', hpost, fun target h => hstep₁ _ fun acts => by rw [doInvoke_state]; exact hsteps.trans h⟩
  · exact Or.inr ⟨q, vm₁, B, X₁.warmed, X', hpost, hstep₁ _ fun acts => by rw [doInvoke_state]; exact hsteps⟩
end Calls
theorem vx_cls {s : State} {T : State} {vm₁ : Vm} {E : String} {k : ClassId} (hW : s.WarmedH vm₁) (h : (T.setVm vm₁).vm.findClass E = some k) : s.vm.findClass E = some k := by
  have h1 : vm₁.findClass E = some k := h
  rw [hW.alike.findClass] at h1
  exact h1
/-- the method's frame g, with q thrown over it -/
def vx_W (p : Program) (l : Launch) (e : Env) (R : Room) (s : State) (m : MethodId) (args : Array Value) (below : List Frame) (meth : Method) (c : Code) (H : Heap) (locs : List Loc) (cells slots : Nat) (Q : State → Prop) (g : JFrame) (q : Addr) : Prop :=
  ∀ T : State, T.heap = H → Stand p l e R s m args below meth c T locs cells slots → ∃ t, Steps p.tables e below ((T.setTop g).pushFrame (.throwing q)) t ∧ Q t
def vx_Run (p : Program) (l : Launch) (e : Env) (R : Room) (s : State) (m : MethodId) (args : Array Value) (below : List Frame) (meth : Method) (c : Code) (H : Heap) (locs : List Loc) (cells slots mc ms : Nat) (g : JFrame) (rest : List Value) (Qa : State → Outcome → State → Prop) (XC : String → State → State → Prop) (free : Addr → Prop) : Prop :=
  ∀ T : State, T.heap = H → Stand p l e R s m args below meth c T locs cells slots →
    (∃ (v : Option Value) (st₀ t T' : State) (L : List Loc), st₀.heap = H ∧ Stand p l e R s m args below meth c T' (locs ++ L) (cells + mc) (slots + ms) ∧ (∀ q ∈ L, free q.base) ∧ T'.heap = t.heap ∧ T'.vm = t.vm ∧ Qa st₀ (.returned v) t ∧
      Goes p e below T g T' { g with pc := g.pc + 3, stack := v.toList ++ rest }) ∨
    (∃ (q : Addr) (st₀ t T' : State) (L : List Loc) (E : String) (ce : Cell), st₀.heap = H ∧ Stand p l e R s m args below meth c T' (locs ++ L) (cells + mc) (slots + ms) ∧ (∀ z ∈ L, free z.base) ∧ T'.heap = t.heap ∧ T'.vm = t.vm ∧ XC E st₀ t ∧ t.heap[q]? = some ce ∧ ce.vm = .none ∧ s.vm.findClass E = some ce.cls ∧
      Steps p.tables e below (T.setTop g) ((T'.setTop { g with stack := rest }).pushFrame (.throwing q)))
def vx_X {S : Type} (px : S → Prop) (B : String → S → State → Prop) (A : Nat → Prop) : String → State → State → Prop := fun E st t => ∃ u : S, px u ∧ B E u t ∧ va_F A st t
section Runs
variable {p : Program} {l : Launch} {e : Env} {R : Room} {s : State} {m : MethodId} {args : Array Value} {below : List Frame} {meth : Method} {c : Code} {H : Heap} {locs : List Loc} {cells slots : Nat}
variable {y : MethodName} {bytes cc : ByteArray} {maxL nL mc ms n index : Nat} {ret : Option FieldType} {ws : List Cond} {rm : Room} {Pc : Array Value → State → Prop} {Qc : Array Value → State → Outcome → State → Prop} {XC : String → State → State → Prop} {free : Addr → Prop} {Ts : List Cond} {own C : String} {b : Addr} {As rest : List Value} {g : JFrame}
theorem vx_callBack (cb : CallB R s args own index y bytes maxL ret ws rm mc ms n) (hM : vx_Met l y ws rm Pc Qc XC mc ms free) (hbl : FrameBlind Pc) : vx_Back l R p e below s args y 3 8 (PreOf R mc ms Pc) (PostOf Qc mc ms free) (vx_Post XC mc ms free) := by
  obtain ⟨hrc, hrs, hfr, hlo, hws, hcw, -, hini, -⟩ := cb
  exact vx_back (bytes := bytes) (maxL := maxL) (ret := ret) hM hbl hrc hrs hfr hlo hws hcw (fun a' U hW => word_at hW (Or.inl (by first | rfl | simp [Cond.onTables, Cond.keeps, Cond.steady])) hini)
theorem vx_runV (S : CallFix p m c cc nL s args Ts own) (hM : vx_Met l y ws rm Pc Qc XC mc ms free) (cw : CallW R s args own C index y bytes maxL ret ws rm mc ms n) (hp : PreV s H C b Pc As)
    (hg : g.method = m) (hn : As.length = n) (hsize : g.locals.size = nL) (hstack : g.stack = As.reverse ++ .ref b :: rest) (hW : 2 * g.monitorRoom + (rest.map fun v => v.category).sum ≤ 8) (hdg : decode cc g.pc = .ok (.invokevirtual index, 3)) (hf : cells + mc ≤ R.cells ∧ slots + ms ≤ R.slots) :
    vx_Run p l e R s m args below meth c H locs cells slots mc ms g rest (Qc (Value.ref b :: As).toArray) XC free := by
  have hK : vx_Back l R p e below s args y 3 8 (PreOf R mc ms Pc) (PostOf Qc mc ms free) (vx_Post XC mc ms free) := vx_callBack cw.1 hM hp.1
  obtain ⟨⟨-, -, -, -, -, -, hcode, -, hy, hlen, hl⟩, hin, hse⟩ := cw
  obtain ⟨hx, hb, hml, ho, -⟩ := S
  obtain ⟨-, ⟨cellB, hcB, hoB, hclB⟩, hPc⟩ := hp
  intro T hT X
  rcases vx_callV X hx (C := C) (bytes := bytes) (maxL := maxL) (ret := ret) ho hl hin hse hcode hy hK (by rw [hT]; exact hcB) hoB hclB hg (hsize.trans hml.symm) (argsL := As) (rest := rest) (fun sig h => hn.trans (hlen sig h)) hstack hW (by rw [hb]; exact hdg)
    (fun vm₁ hW₁ => ⟨hf.1, hf.2, hPc (T.setVm vm₁) hT hW₁⟩) with ⟨v, vm₁, ⟨U', l2, c2, s2⟩, hW₁, X', ⟨g', mk, t, L, e1, e2, hq, h1, hL, h2, h3⟩, st⟩ | ⟨q, vm₁, ⟨U', l2, c2, s2⟩, hW₁, X', ⟨g', mk, t, L, E, ce, e1, e2, hq, hce, hcv, hcl, h1, hL, h2, h3⟩, st⟩
  · dsimp only [Pt.U, Pt.locs, Pt.cells, Pt.slots] at X' e1 e2 h1 h2 h3 st
    subst h1; subst h2; subst h3
    exact Or.inl ⟨v, (T.setVm vm₁).calling g' mk (Value.ref b :: As).toArray, t, U', L, hT, X', hL, e1, e2, hq, st⟩
  · dsimp only [Pt.U, Pt.locs, Pt.cells, Pt.slots] at X' e1 e2 h1 h2 h3 st hcl
    subst h1; subst h2; subst h3
    exact Or.inr ⟨q, (T.setVm vm₁).calling g' mk (Value.ref b :: As).toArray, t, U', L, E, ce, hT, X', hL, e1, e2, hq, hce, hcv, vx_cls hW₁ hcl, st⟩
theorem vx_runS (S : CallFix p m c cc nL s args Ts own) (hM : vx_Met l y ws rm Pc Qc XC mc ms free) (cw : CallB R s args own index y bytes maxL ret ws rm mc ms n ∧ (Cond.static y).before args s = true) (hp : PreS s H Pc As)
    (hg : g.method = m) (hn : As.length = n) (hsize : g.locals.size = nL) (hstack : g.stack = As.reverse ++ rest) (hW : 2 * g.monitorRoom + (rest.map fun v => v.category).sum ≤ 8) (hdg : decode cc g.pc = .ok (.invokestatic index, 3)) (hf : cells + mc ≤ R.cells ∧ slots + ms ≤ R.slots) :
    vx_Run p l e R s m args below meth c H locs cells slots mc ms g rest (Qc As.toArray) XC free := by
  have hK : vx_Back l R p e below s args y 3 8 (PreOf R mc ms Pc) (PostOf Qc mc ms free) (vx_Post XC mc ms free) := vx_callBack cw.1 hM hp.1
  obtain ⟨⟨-, -, -, -, -, -, hcode, hini, hy, hlen, hl⟩, hstt⟩ := cw
  obtain ⟨hx, hb, hml, ho, -⟩ := S
  intro T hT X
  rcases vx_callS X hx (bytes := bytes) (maxL := maxL) (ret := ret) ho hl hstt hini hcode hy hK hg (hsize.trans hml.symm) (argsL := As) (rest := rest) (fun sig h => hn.trans (hlen sig h)) hstack hW (by rw [hb]; exact hdg)
    (fun vm₁ hW₁ => ⟨hf.1, hf.2, hp.2 (T.setVm vm₁) hT hW₁⟩) with ⟨v, vm₁, ⟨U', l2, c2, s2⟩, hW₁, X', ⟨g', mk, t, L, e1, e2, hq, h1, hL, h2, h3⟩, st⟩ | ⟨q, vm₁, ⟨U', l2, c2, s2⟩, hW₁, X', ⟨g', mk, t, L, E, ce, e1, e2, hq, hce, hcv, hcl, h1, hL, h2, h3⟩, st⟩
  · dsimp only [Pt.U, Pt.locs, Pt.cells, Pt.slots] at X' e1 e2 h1 h2 h3 st
    subst h1; subst h2; subst h3
    exact Or.inl ⟨v, (T.setVm vm₁).calling g' mk As.toArray, t, U', L, hT, X', hL, e1, e2, hq, st⟩
  · dsimp only [Pt.U, Pt.locs, Pt.cells, Pt.slots] at X' e1 e2 h1 h2 h3 st hcl
    subst h1; subst h2; subst h3
    exact Or.inr ⟨q, (T.setVm vm₁).calling g' mk As.toArray, t, U', L, E, ce, hT, X', hL, e1, e2, hq, hce, hcv, vx_cls hW₁ hcl, st⟩
end Runs
section Rows
variable {p : Program} {l : Launch} {e : Env} {R : Room} {s : State} {m : MethodId} {args : Array Value} {below : List Frame} {meth : Method} {c : Code} {H : Heap} {locs : List Loc} {cells slots : Nat} {Q : State → Prop}
variable {mc ms : Nat} {free : Addr → Prop} {A0 A1 : Nat → Prop} {H0 : Heap} {a : Array Value} {pc : Nat} {ls : Array Slot} {st0 rest : List Value}
theorem vx_keep {st₀ t T' : State} {L : List Loc} (h0 : st₀.heap = H) (e1 : T'.heap = t.heap) (hS : va_S A0 H0 H locs) (hA : ∀ q, q < H.size → A1 q → A0 q) (hf : ∀ q, free q → A0 q) (hL : ∀ q ∈ L, free q.base) (hF : va_F A1 st₀ t) :
    H.size ≤ T'.heap.size ∧ (∀ q : Nat, q < H.size → ¬ A1 q → T'.heap[q]? = H[q]?) ∧ va_S A0 H0 T'.heap (locs ++ L) := by
  obtain ⟨hz, hk⟩ := hF
  rw [h0] at hz hk
  exact ⟨by rw [e1]; exact hz, fun q h1 h2 => by rw [e1]; exact hk q h1 h2,
    ⟨Nat.le_trans hS.1 (by rw [e1]; exact hz), fun q h1 h2 => by rw [e1, hk q (Nat.lt_of_lt_of_le h1 hS.1) (fun z => h2 (hA q (Nat.lt_of_lt_of_le h1 hS.1) z))]; exact hS.2.1 q h1 h2, fun q hq => by
      rcases List.mem_append.mp hq with h | h
      · exact hS.2.2 q h
      · exact hf _ (hL q h)⟩⟩
theorem vx_calli {S SX : Type} {post : Int32 → S → Prop} {px : SX → Prop} {B : S → State → Prop} {BX : String → SX → State → Prop} {AX : Nat → Prop} (hr : vx_Run p l e R s m args below meth c H locs cells slots mc ms (F0 m pc ls st0) rest (va_Qi post B A1 a) (vx_X px BX AX) free) (hS : va_S A0 H0 H locs) (hA : ∀ q, q < H.size → A1 q → A0 q) (hf : ∀ q, free q → A0 q) (hAX : ∀ q, q < H.size → AX q → A0 q)
    (kx : ∀ (E : String) (ce : Cell) (q9 : Addr) (u : SX) (t : State) (H1 : Heap) (locs1 : List Loc), t.heap = H1 → s.vm.Alike t.vm → px u → BX E u t → H.size ≤ H1.size → (∀ q : Nat, q < H.size → ¬ AX q → H1[q]? = H[q]?) → va_S A0 H0 H1 locs1 → H1[q9]? = some ce → ce.vm = .none → s.vm.findClass E = some ce.cls → vx_W p l e R s m args below meth c H1 locs1 (cells + mc) (slots + ms) Q (F0 m pc ls rest) q9)
    (kk : ∀ (r : Int32) (u : S) (t : State) (H1 : Heap) (locs1 : List Loc), t.heap = H1 → s.vm.Alike t.vm → post r u → B u t → H.size ≤ H1.size → (∀ q : Nat, q < H.size → ¬ A1 q → H1[q]? = H[q]?) → va_S A0 H0 H1 locs1 → W p l e R s m args below meth c H1 locs1 (cells + mc) (slots + ms) Q (F0 m (pc + 3) ls (.int r :: rest))) : W p l e R s m args below meth c H locs cells slots Q (F0 m pc ls st0) := by
  intro T hT X
  rcases hr T hT X with ⟨v, st₀, t, T', L, h0, X', hL, e1, e2, ⟨⟨r, u, hv, hp, hb⟩, hF⟩, st⟩ | ⟨q, st₀, t, T', L, E, ce, h0, X', hL, e1, e2, ⟨u, hp, hb, hF⟩, hce, hcv, hcl, st⟩
  · cases hv
    obtain ⟨k1, k2, k3⟩ := vx_keep h0 e1 hS hA hf hL hF
    obtain ⟨t2, a1, b1⟩ := kk r u t T'.heap (locs ++ L) e1.symm (by rw [← e2]; exact X'.warmed.alike) hp hb k1 k2 k3 T' rfl X'
    exact ⟨t2, st t2 a1, b1⟩
  · obtain ⟨k1, k2, k3⟩ := vx_keep h0 e1 hS hAX hf hL hF
    obtain ⟨t2, a1, b1⟩ := kx E ce q u t T'.heap (locs ++ L) e1.symm (by rw [← e2]; exact X'.warmed.alike) hp hb k1 k2 k3 (by rw [e1]; exact hce) hcv hcl T' rfl X'
    exact ⟨t2, st.trans a1, b1⟩
theorem vx_calll {S SX : Type} {post : Int64 → S → Prop} {px : SX → Prop} {B : S → State → Prop} {BX : String → SX → State → Prop} {AX : Nat → Prop} (hr : vx_Run p l e R s m args below meth c H locs cells slots mc ms (F0 m pc ls st0) rest (va_Ql post B A1 a) (vx_X px BX AX) free) (hS : va_S A0 H0 H locs) (hA : ∀ q, q < H.size → A1 q → A0 q) (hf : ∀ q, free q → A0 q) (hAX : ∀ q, q < H.size → AX q → A0 q)
    (kx : ∀ (E : String) (ce : Cell) (q9 : Addr) (u : SX) (t : State) (H1 : Heap) (locs1 : List Loc), t.heap = H1 → s.vm.Alike t.vm → px u → BX E u t → H.size ≤ H1.size → (∀ q : Nat, q < H.size → ¬ AX q → H1[q]? = H[q]?) → va_S A0 H0 H1 locs1 → H1[q9]? = some ce → ce.vm = .none → s.vm.findClass E = some ce.cls → vx_W p l e R s m args below meth c H1 locs1 (cells + mc) (slots + ms) Q (F0 m pc ls rest) q9)
    (kk : ∀ (r : Int64) (u : S) (t : State) (H1 : Heap) (locs1 : List Loc), t.heap = H1 → s.vm.Alike t.vm → post r u → B u t → H.size ≤ H1.size → (∀ q : Nat, q < H.size → ¬ A1 q → H1[q]? = H[q]?) → va_S A0 H0 H1 locs1 → W p l e R s m args below meth c H1 locs1 (cells + mc) (slots + ms) Q (F0 m (pc + 3) ls (.long r :: rest))) : W p l e R s m args below meth c H locs cells slots Q (F0 m pc ls st0) := by
  intro T hT X
  rcases hr T hT X with ⟨v, st₀, t, T', L, h0, X', hL, e1, e2, ⟨⟨r, u, hv, hp, hb⟩, hF⟩, st⟩ | ⟨q, st₀, t, T', L, E, ce, h0, X', hL, e1, e2, ⟨u, hp, hb, hF⟩, hce, hcv, hcl, st⟩
  · cases hv
    obtain ⟨k1, k2, k3⟩ := vx_keep h0 e1 hS hA hf hL hF
    obtain ⟨t2, a1, b1⟩ := kk r u t T'.heap (locs ++ L) e1.symm (by rw [← e2]; exact X'.warmed.alike) hp hb k1 k2 k3 T' rfl X'
    exact ⟨t2, st t2 a1, b1⟩
  · obtain ⟨k1, k2, k3⟩ := vx_keep h0 e1 hS hAX hf hL hF
    obtain ⟨t2, a1, b1⟩ := kx E ce q u t T'.heap (locs ++ L) e1.symm (by rw [← e2]; exact X'.warmed.alike) hp hb k1 k2 k3 (by rw [e1]; exact hce) hcv hcl T' rfl X'
    exact ⟨t2, st.trans a1, b1⟩
theorem vx_callf {S SX : Type} {post : UInt32 → S → Prop} {px : SX → Prop} {B : S → State → Prop} {BX : String → SX → State → Prop} {AX : Nat → Prop} (hr : vx_Run p l e R s m args below meth c H locs cells slots mc ms (F0 m pc ls st0) rest (va_Qf post B A1 a) (vx_X px BX AX) free) (hS : va_S A0 H0 H locs) (hA : ∀ q, q < H.size → A1 q → A0 q) (hf : ∀ q, free q → A0 q) (hAX : ∀ q, q < H.size → AX q → A0 q)
    (kx : ∀ (E : String) (ce : Cell) (q9 : Addr) (u : SX) (t : State) (H1 : Heap) (locs1 : List Loc), t.heap = H1 → s.vm.Alike t.vm → px u → BX E u t → H.size ≤ H1.size → (∀ q : Nat, q < H.size → ¬ AX q → H1[q]? = H[q]?) → va_S A0 H0 H1 locs1 → H1[q9]? = some ce → ce.vm = .none → s.vm.findClass E = some ce.cls → vx_W p l e R s m args below meth c H1 locs1 (cells + mc) (slots + ms) Q (F0 m pc ls rest) q9)
    (kk : ∀ (r : UInt32) (u : S) (t : State) (H1 : Heap) (locs1 : List Loc), t.heap = H1 → s.vm.Alike t.vm → post r u → B u t → H.size ≤ H1.size → (∀ q : Nat, q < H.size → ¬ A1 q → H1[q]? = H[q]?) → va_S A0 H0 H1 locs1 → W p l e R s m args below meth c H1 locs1 (cells + mc) (slots + ms) Q (F0 m (pc + 3) ls (.float r :: rest))) : W p l e R s m args below meth c H locs cells slots Q (F0 m pc ls st0) := by
  intro T hT X
  rcases hr T hT X with ⟨v, st₀, t, T', L, h0, X', hL, e1, e2, ⟨⟨r, u, hv, hp, hb⟩, hF⟩, st⟩ | ⟨q, st₀, t, T', L, E, ce, h0, X', hL, e1, e2, ⟨u, hp, hb, hF⟩, hce, hcv, hcl, st⟩
  · cases hv
    obtain ⟨k1, k2, k3⟩ := vx_keep h0 e1 hS hA hf hL hF
    obtain ⟨t2, a1, b1⟩ := kk r u t T'.heap (locs ++ L) e1.symm (by rw [← e2]; exact X'.warmed.alike) hp hb k1 k2 k3 T' rfl X'
    exact ⟨t2, st t2 a1, b1⟩
  · obtain ⟨k1, k2, k3⟩ := vx_keep h0 e1 hS hAX hf hL hF
    obtain ⟨t2, a1, b1⟩ := kx E ce q u t T'.heap (locs ++ L) e1.symm (by rw [← e2]; exact X'.warmed.alike) hp hb k1 k2 k3 (by rw [e1]; exact hce) hcv hcl T' rfl X'
    exact ⟨t2, st.trans a1, b1⟩
theorem vx_calld {S SX : Type} {post : UInt64 → S → Prop} {px : SX → Prop} {B : S → State → Prop} {BX : String → SX → State → Prop} {AX : Nat → Prop} (hr : vx_Run p l e R s m args below meth c H locs cells slots mc ms (F0 m pc ls st0) rest (va_Qd post B A1 a) (vx_X px BX AX) free) (hS : va_S A0 H0 H locs) (hA : ∀ q, q < H.size → A1 q → A0 q) (hf : ∀ q, free q → A0 q) (hAX : ∀ q, q < H.size → AX q → A0 q)
    (kx : ∀ (E : String) (ce : Cell) (q9 : Addr) (u : SX) (t : State) (H1 : Heap) (locs1 : List Loc), t.heap = H1 → s.vm.Alike t.vm → px u → BX E u t → H.size ≤ H1.size → (∀ q : Nat, q < H.size → ¬ AX q → H1[q]? = H[q]?) → va_S A0 H0 H1 locs1 → H1[q9]? = some ce → ce.vm = .none → s.vm.findClass E = some ce.cls → vx_W p l e R s m args below meth c H1 locs1 (cells + mc) (slots + ms) Q (F0 m pc ls rest) q9)
    (kk : ∀ (r : UInt64) (u : S) (t : State) (H1 : Heap) (locs1 : List Loc), t.heap = H1 → s.vm.Alike t.vm → post r u → B u t → H.size ≤ H1.size → (∀ q : Nat, q < H.size → ¬ A1 q → H1[q]? = H[q]?) → va_S A0 H0 H1 locs1 → W p l e R s m args below meth c H1 locs1 (cells + mc) (slots + ms) Q (F0 m (pc + 3) ls (.double r :: rest))) : W p l e R s m args below meth c H locs cells slots Q (F0 m pc ls st0) := by
  intro T hT X
  rcases hr T hT X with ⟨v, st₀, t, T', L, h0, X', hL, e1, e2, ⟨⟨r, u, hv, hp, hb⟩, hF⟩, st⟩ | ⟨q, st₀, t, T', L, E, ce, h0, X', hL, e1, e2, ⟨u, hp, hb, hF⟩, hce, hcv, hcl, st⟩
  · cases hv
    obtain ⟨k1, k2, k3⟩ := vx_keep h0 e1 hS hA hf hL hF
    obtain ⟨t2, a1, b1⟩ := kk r u t T'.heap (locs ++ L) e1.symm (by rw [← e2]; exact X'.warmed.alike) hp hb k1 k2 k3 T' rfl X'
    exact ⟨t2, st t2 a1, b1⟩
  · obtain ⟨k1, k2, k3⟩ := vx_keep h0 e1 hS hAX hf hL hF
    obtain ⟨t2, a1, b1⟩ := kx E ce q u t T'.heap (locs ++ L) e1.symm (by rw [← e2]; exact X'.warmed.alike) hp hb k1 k2 k3 (by rw [e1]; exact hce) hcv hcl T' rfl X'
    exact ⟨t2, st.trans a1, b1⟩
theorem vx_callv {S SX : Type} {post : S → Prop} {px : SX → Prop} {B : S → State → Prop} {BX : String → SX → State → Prop} {AX : Nat → Prop} (hr : vx_Run p l e R s m args below meth c H locs cells slots mc ms (F0 m pc ls st0) rest (va_Qv post B A1 a) (vx_X px BX AX) free) (hS : va_S A0 H0 H locs) (hA : ∀ q, q < H.size → A1 q → A0 q) (hf : ∀ q, free q → A0 q) (hAX : ∀ q, q < H.size → AX q → A0 q)
    (kx : ∀ (E : String) (ce : Cell) (q9 : Addr) (u : SX) (t : State) (H1 : Heap) (locs1 : List Loc), t.heap = H1 → s.vm.Alike t.vm → px u → BX E u t → H.size ≤ H1.size → (∀ q : Nat, q < H.size → ¬ AX q → H1[q]? = H[q]?) → va_S A0 H0 H1 locs1 → H1[q9]? = some ce → ce.vm = .none → s.vm.findClass E = some ce.cls → vx_W p l e R s m args below meth c H1 locs1 (cells + mc) (slots + ms) Q (F0 m pc ls rest) q9)
    (kk : ∀ (u : S) (t : State) (H1 : Heap) (locs1 : List Loc), t.heap = H1 → s.vm.Alike t.vm → post u → B u t → H.size ≤ H1.size → (∀ q : Nat, q < H.size → ¬ A1 q → H1[q]? = H[q]?) → va_S A0 H0 H1 locs1 → W p l e R s m args below meth c H1 locs1 (cells + mc) (slots + ms) Q (F0 m (pc + 3) ls (rest))) : W p l e R s m args below meth c H locs cells slots Q (F0 m pc ls st0) := by
  intro T hT X
  rcases hr T hT X with ⟨v, st₀, t, T', L, h0, X', hL, e1, e2, ⟨⟨u, hv, hp, hb⟩, hF⟩, st⟩ | ⟨q, st₀, t, T', L, E, ce, h0, X', hL, e1, e2, ⟨u, hp, hb, hF⟩, hce, hcv, hcl, st⟩
  · cases hv
    obtain ⟨k1, k2, k3⟩ := vx_keep h0 e1 hS hA hf hL hF
    obtain ⟨t2, a1, b1⟩ := kk u t T'.heap (locs ++ L) e1.symm (by rw [← e2]; exact X'.warmed.alike) hp hb k1 k2 k3 T' rfl X'
    exact ⟨t2, st t2 a1, b1⟩
  · obtain ⟨k1, k2, k3⟩ := vx_keep h0 e1 hS hAX hf hL hF
    obtain ⟨t2, a1, b1⟩ := kx E ce q u t T'.heap (locs ++ L) e1.symm (by rw [← e2]; exact X'.warmed.alike) hp hb k1 k2 k3 (by rw [e1]; exact hce) hcv hcl T' rfl X'
    exact ⟨t2, st.trans a1, b1⟩
/-- caught by the row x of this method's table; the rows ahead don't take it -/
theorem vx_catch {own name : String} {E : String} {ce : Cell} {q : Addr} (hown : s.vm.findClass own = some m.cls) (pre : List ExceptionTableEntry) (x : ExceptionTableEntry) (suf : List ExceptionTableEntry) (hsplit : c.exceptionTable.toList = pre ++ x :: suf)
    (hpass : ∀ z ∈ pre, covers z pc = false ∨ (z.catchType ≠ 0 ∧ ∃ nm : String, (Cond.classLink own z.catchType nm).before args s = true ∧ va_Nc E nm s)) (hx : covers x pc = true) (h0 : x.catchType ≠ 0)
    (hlink : (Cond.classLink own x.catchType name).before args s = true) (hcast : (Cond.castable E name).before args s = true) (hcell : H[q]? = some ce) (hv : ce.vm = .none) (hcl : s.vm.findClass E = some ce.cls)
    (kk : W p l e R s m args below meth c H locs cells slots Q (F0 m x.handlerPc ls [.ref q])) : vx_W p l e R s m args below meth c H locs cells slots Q (F0 m pc ls rest) q := by
  intro T hT X
  have hpl : e.platform.magicAccessors = ({} : Platform).magicAccessors := by rw [X.admits.platform]
  obtain ⟨c3, c4, hc3, hc4, hasg⟩ := Cond.castable_spec hcast
  cases Option.some.inj (hc3.symm.trans hcl)
  obtain ⟨c5, hc5, hcl5⟩ := Cond.classLink_spec hown hlink e.platform hpl
  cases Option.some.inj (hc4.symm.trans hc5)
  obtain ⟨vm', X', st⟩ := X.thenCaughtThrough q (g := F0 m pc ls rest) rfl (Steps.refl _) (by rw [hT]; exact hcell) (by rw [hv]; rfl) (by obtain ⟨k9, h9, -⟩ := Vm.findClass_spec hcl; exact ⟨k9, h9⟩) pre x suf hsplit
    (fun z hz => by
      rcases hpass z hz with h | ⟨hz0, nm, hl1, hn1⟩
      · exact Or.inl h
      · obtain ⟨c6, hc6, hcl6⟩ := Cond.classLink_spec hown hl1 e.platform hpl
        obtain ⟨a8, b8, h1, h2, h3⟩ := hn1
        cases Option.some.inj (h1.symm.trans hcl)
        cases Option.some.inj (h2.symm.trans hc6)
        exact Or.inr ⟨hz0, _, hcl6, h3⟩) hx (Or.inr ⟨h0, c4, hcl5, hasg⟩)
  obtain ⟨t, a1, b1⟩ := kk (T.setVm vm') hT X'
  exact ⟨t, st.trans a1, b1⟩
end Rows
section Ends
variable {p : Program} {l : Launch} {e : Env} {R : Room} {s : State} {m : MethodId} {args : Array Value} {below : List Frame} {meth : Method} {c : Code} {H : Heap} {locs : List Loc} {cells slots : Nat} {Q : State → Prop}
variable {mc ms : Nat} {free : Addr → Prop} {A0 A1 : Nat → Prop} {H0 : Heap} {a : Array Value} {ls : Array Slot} {st0 rest : List Value}
variable {Qc : Array Value → State → Outcome → State → Prop} {XC : String → State → State → Prop}
/-- what a body that may throw owes at its end -/
def vx_MQ (below : List Frame) (Qc : Array Value → State → Outcome → State → Prop) (XC : String → State → State → Prop) (a : Array Value) (s : State) (mc ms : Nat) (free : Addr → Prop) : State → Prop := fun t =>
  ∃ o, t.status = .running ∧ Ended t below o ∧ vx_Q Qc XC mc ms free a s o t
theorem vx_ret {g : JFrame} {mc ms : Nat} (k : W p l e R s m args below meth c H locs cells slots (MQ below Qc args s mc ms free) g) : W p l e R s m args below meth c H locs cells slots (vx_MQ below Qc XC args s mc ms free) g := by
  intro T hT X
  obtain ⟨t, a1, o, b1, b2, b3, b4⟩ := k T hT X
  exact ⟨t, a1, o, b1, b2, Or.inl ⟨b3, b4⟩⟩
/-- not caught here: it goes on to the caller -/
theorem vx_widen {g : JFrame} {q : Addr} {k n : Nat} (h1 : cells ≤ k) (h2 : slots ≤ n) (kk : vx_W p l e R s m args below meth c H locs k n Q g q) : vx_W p l e R s m args below meth c H locs cells slots Q g q := fun T hT X => kk T hT (stand_widen X h1 h2)
theorem vx_out {pc : Nat} {E : String} {ce : Cell} {q : Addr} {mc ms : Nat} (hout : ∀ x ∈ c.exceptionTable.toList, covers x pc = false) (hlocks : meth.locks = false) (hcell : H[q]? = some ce) (hv : ce.vm = .none) (hcl : s.vm.findClass E = some ce.cls)
    (hx : ∀ t : State, t.heap = H → s.vm.Alike t.vm → XC E s t) (hf : ∀ z ∈ locs, free z.base) (hc : cells ≤ mc) (hs : slots ≤ ms) :
    vx_W p l e R s m args below meth c H locs cells slots (vx_MQ below Qc XC args s mc ms free) (F0 m pc ls rest) q := by
  intro T hT X
  obtain ⟨st1, hrun, hend, hW, hsm⟩ := X.leaveThrown q (g := F0 m pc ls rest) rfl rfl rfl hout hlocks
  have hcell9 : (T.setFrames (.throwing q :: below)).heap[q]? = some ce := by
    show T.heap[q]? = some ce
    rw [hT]; exact hcell
  exact ⟨_, st1, .threw q, hrun, hend, Or.inr ⟨q, rfl, E, ce, locs, hx _ hT hW.alike, hcell9, hv, hcl, hW, hsm.mono hc hs, hf⟩⟩
theorem vx_frame {U : State} {k n : Nat} (h : s.sameButNew ({ U with vm := s.vm } : State) locs k n) : s.heap.size ≤ U.heap.size ∧ ∀ q : Nat, q < s.heap.size → (∀ z ∈ locs, z.base ≠ q) → U.heap[q]? = s.heap[q]? := by
  obtain ⟨-, h2, -, -, -, h6⟩ := h
  refine ⟨h2, fun q hq hz => ?_⟩
  obtain ⟨c9, e1, e2, e3, e4⟩ := h6 q _ (Array.getElem?_eq_getElem hq)
  have hs : c9.slots = (s.heap[q]).slots := Array.ext_getElem? fun i => e4 i fun hm => hz _ hm rfl
  have h9 : c9 = s.heap[q] := by
    rw [hs] at e2
    exact e2
  have e5 : U.heap[q]? = some c9 := e1
  rw [e5, h9, Array.getElem?_eq_getElem hq]
/-- the words of a throw but the four that speak of the heap -/
def vx_no (w : Cond) : Bool := decide (w ≠ .isRef (.static Bundle.tN "UNASSIGNED_STACK" Bundle.steD)) && decide (w ≠ .isRef (.static Bundle.tN "SUPPRESSED_SENTINEL" Bundle.listD)) && decide (w ≠ .laysStatic Bundle.tN "UNASSIGNED_STACK" Bundle.steD) && decide (w ≠ .laysStatic Bundle.tN "SUPPRESSED_SENTINEL" Bundle.listD)
def vx_at0 (own : String) (ic : Nat) (X : String) (names : List String) : List Cond := (Bundle.ownAtoms0 own ic X names).filter vx_no
def vx_atS (own : String) (ic : Nat) (X : String) (names : List String) : List Cond := (Bundle.ownAtoms own ic X names).filter vx_no
/-- a word that the tables alone decide, or a good one -/
def vx_ot (w : Cond) : Bool := w.onTables || goodWord w
theorem vx_ot_at {args a' : Array Value} {s U : State} {w : Cond} (hW : s.WarmedH U.vm) (hvm : s.vm = U.vm) (hg : vx_ot w = true) (h : w.before args s = true) : w.before a' U = true := by
  simp only [vx_ot, Bool.or_eq_true] at hg
  rcases hg with hg | hg
  · exact va_tabs hg hvm h
  · exact word_at hW (good_of_word hg) h
/-- a list's words: the good ones out of the method's own list, the others by premises of their own -/
theorem vx_hat {args : Array Value} {s : State} {L B : List Cond} (h1 : ∀ w ∈ L.filter goodWord, w.before args s = true) (h2 : ∀ w ∈ L.filter (fun w => !goodWord w), w ∈ B) (h3 : ∀ w ∈ B, w.before args s = true) : ∀ w ∈ L, w.before args s = true := by
  intro w hw
  by_cases g : goodWord w = true
  · exact h1 w (List.mem_filter.mpr ⟨hw, g⟩)
  · refine h3 w (h2 w (List.mem_filter.mpr ⟨hw, ?_⟩))
    show (!goodWord w) = true
    cases hgw : goodWord w
    · rfl
    · exact absurd hgw g
theorem vx_c {args : Array Value} {s : State} {w : Cond} {B : List Cond} (h : w.before args s = true) (t : ∀ w ∈ B, w.before args s = true) : ∀ w' ∈ w :: B, w'.before args s = true := fun w' h' => (List.mem_cons.mp h').elim (fun e => by rw [e]; exact h) (t w')
theorem vx_n {args : Array Value} {s : State} : ∀ w ∈ ([] : List Cond), w.before args s = true := fun _ h => nomatch h
theorem vx_own {args : Array Value} {s : State} {L : List Cond} (h1 : ∀ w ∈ L.filter vx_no, w.before args s = true)
    (hU : (Cond.isRef (.static Bundle.tN "UNASSIGNED_STACK" Bundle.steD)).before args s = true) (hN : (Cond.isRef (.static Bundle.tN "SUPPRESSED_SENTINEL" Bundle.listD)).before args s = true)
    (lU : (Cond.laysStatic Bundle.tN "UNASSIGNED_STACK" Bundle.steD).before args s = true) (lN : (Cond.laysStatic Bundle.tN "SUPPRESSED_SENTINEL" Bundle.listD).before args s = true) : ∀ w ∈ L, w.before args s = true := by
  intro w hw
  by_cases e1 : w = .isRef (.static Bundle.tN "UNASSIGNED_STACK" Bundle.steD)
  · rw [e1]; exact hU
  · by_cases e2 : w = .isRef (.static Bundle.tN "SUPPRESSED_SENTINEL" Bundle.listD)
    · rw [e2]; exact hN
    · by_cases e3 : w = .laysStatic Bundle.tN "UNASSIGNED_STACK" Bundle.steD
      · rw [e3]; exact lU
      · by_cases e4 : w = .laysStatic Bundle.tN "SUPPRESSED_SENTINEL" Bundle.listD
        · rw [e4]; exact lN
        · exact h1 w (List.mem_filter.mpr ⟨hw, by unfold vx_no; rw [decide_eq_true e1, decide_eq_true e2, decide_eq_true e3, decide_eq_true e4]; rfl⟩)
/-- where a static field lies, its class's statics cell in H -/
def vx_L (C n d : String) (A : Nat → Prop) (U : State) (H : Heap) : Prop := ∃ (c : ClassId) (k : Class) (i : Nat) (f : Field) (a : Nat) (cell : Cell), U.vm.findClass C = some c ∧ U.fieldFound? C n d = some (c, k, i, f) ∧ f.isStatic = true ∧ k.statics = some a ∧ H[a]? = some cell ∧ cell.vm.isStatics = true ∧ cell.cls = c ∧ f.slot < cell.slots.size ∧ k.staticTypes[f.slot]? = some f.type ∧ ¬ A a
theorem vx_L.moved {C n d : String} {A : Nat → Prop} {u U : State} {H : Heap} (hvm : u.vm.Alike U.vm) (h : vx_L C n d A u H) : vx_L C n d A U H := by
  obtain ⟨c, k, i, f, a, cell, h1, h2, h3, h4, h5, h6, h7, h8, h9, h10⟩ := h
  obtain ⟨k', hi', he⟩ := State.fieldFound?_setVm hvm h2
  exact ⟨c, k', i, f, a, cell, by rw [hvm.findClass]; exact h1, hi', h3, by rw [he]; exact h4, h5, h6, h7, h8, by rw [he]; exact h9, h10⟩
theorem vx_L.kept {C n d : String} {A : Nat → Prop} {U : State} {H H1 : Heap} (h : vx_L C n d A U H) (hq : ∀ a : Nat, a < H.size → ¬ A a → H1[a]? = H[a]?) : vx_L C n d A U H1 := by
  obtain ⟨c, k, i, f, a, cell, h1, h2, h3, h4, h5, h6, h7, h8, h9, h10⟩ := h
  exact ⟨c, k, i, f, a, cell, h1, h2, h3, h4, by rw [hq a (Array.getElem?_eq_some_iff.mp h5).1 h10]; exact h5, h6, h7, h8, h9, h10⟩
theorem vx_L.narrow {C n d : String} {A B : Nat → Prop} {U : State} {H : Heap} (h : vx_L C n d A U H) (hAB : ∀ q, B q → A q) : vx_L C n d B U H := by
  obtain ⟨c, k, i, f, a, cell, h1, h2, h3, h4, h5, h6, h7, h8, h9, h10⟩ := h
  exact ⟨c, k, i, f, a, cell, h1, h2, h3, h4, h5, h6, h7, h8, h9, fun z => h10 (hAB _ z)⟩
theorem vx_L.word {C n d : String} {A : Nat → Prop} {s : State} {args : Array Value} (h : vx_L C n d A s s.heap) : (Cond.laysStatic C n d).before args s = true := by
  obtain ⟨c, k, i, f, a, cell, h1, h2, h3, h4, h5, h6, h7, h8, h9, -⟩ := h
  show (Cond.laysStatic C n d).holds args s none s [] = true
  exact Cond.laysStatic_of h1 h2 h3 h4 h5 h6 h7 h8 h9
/-- .. and what it holds: null or some reference -/
def vx_Zq (C n d : String) (A : Nat → Prop) (U : State) (H : Heap) : Prop := va_Zq C n d A U H ∧ vx_L C n d A U H
theorem vx_Zq.moved {C n d : String} {A : Nat → Prop} {u U : State} {H : Heap} (hvm : u.vm.Alike U.vm) (h : vx_Zq C n d A u H) : vx_Zq C n d A U H := ⟨va_Zq.moved hvm h.1, vx_L.moved hvm h.2⟩
theorem vx_Zq.kept {C n d : String} {A : Nat → Prop} {U : State} {H H1 : Heap} (h : vx_Zq C n d A U H) (hq : ∀ a : Nat, a < H.size → ¬ A a → H1[a]? = H[a]?) : vx_Zq C n d A U H1 := ⟨va_Zq.kept h.1 hq, vx_L.kept h.2 hq⟩
theorem vx_Zq.narrow {C n d : String} {A B : Nat → Prop} {U : State} {H : Heap} (h : vx_Zq C n d A U H) (hAB : ∀ q, B q → A q) : vx_Zq C n d B U H := ⟨va_Zq.narrow h.1 hAB, vx_L.narrow h.2 hAB⟩
theorem vx_Zqof {args : Array Value} {s : State} {C n d : String} {A : Nat → Prop} (hl : (Cond.laysStatic C n d).before args s = true) (hini : (Cond.initialized C).before args s = true) (h : (Cond.isRef (.static C n d)).before args s = true) (hA : ∀ a : Nat, a < s.heap.size → ¬ A a) : vx_Zq C n d A s s.heap := by
  refine ⟨va_Zqof hl hini h hA, ?_⟩
  obtain ⟨c, k, i, f, a, cell, h1, h2, h3, h4, h5, h6, h7, h8, h9⟩ := Cond.laysStatic_spec hl
  exact ⟨c, k, i, f, a, cell, h1, h2, h3, h4, h5, h6, h7, h8, h9, hA a (Array.getElem?_eq_some_iff.mp h5).1⟩
theorem vx_isRef {C n d : String} {v : Value} {A : Nat → Prop} {s : State} {args : Array Value} (h : va_Z C n d v A s s.heap) (hv : v.isRef = true) : (Cond.isRef (.static C n d)).before args s = true := by
  obtain ⟨cf, kf, fi, f, a, cell, h1, h2, h3, h4, h5, h6, h7, -⟩ := h
  have he : (Term.static C n d).eval args s none [] s = some v := by
    simp [Term.eval, State.fieldNamed?, h1, h2, h4, h5, h6, h7]
  simp only [Cond.before, Cond.holds, Cond.value, he]
  cases v <;> simp_all [Value.isRef]
theorem vx_isRefq {C n d : String} {A : Nat → Prop} {s : State} {args : Array Value} (h : va_Zq C n d A s s.heap) : (Cond.isRef (.static C n d)).before args s = true := by
  rcases h with h | ⟨t, h⟩
  · exact vx_isRef h rfl
  · exact vx_isRef h rfl
/-- the same frame, seen from here: as if the method were called anew in this heap -/
theorem vx_rebase {T : State} (X : Stand p l e R s m args below meth c T locs cells slots) {R' : Room} (hf : R'.frames ≤ R.frames) (hl : R'.locals ≤ R.locals) (hc : cells + R'.cells ≤ R.cells) (hs : slots + R'.slots ≤ R.slots) :
    Stand p l e R' ((T.setVm s.vm).setFrames (.invoking m args :: below)) m args below meth c T [] 0 0 := by
  have htop : (T.setVm s.vm).topJava?.isSome := X.here.top
  have hF : ((T.setVm s.vm).setFrames (.invoking m args :: below)).frames = .invoking m args :: below := State.frames_setFrames _ (State.cur_lt_of_top htop)
  obtain ⟨g₀, hg0⟩ := Option.isSome_iff_exists.mp htop
  obtain ⟨r, hr⟩ := State.topJava?_eq_some.mp hg0
  have hl9 : e.platform.stackLimits (T.setVm s.vm).me = e.platform.stackLimits s.me := X.limits
  have hb9 : (T.setVm s.vm).me.stackBytes = s.me.stackBytes := X.bytes
  refine ⟨X.admits, X.cas, X.clock, hF, ?_, X.hears, X.method, X.code, X.here, X.tail, X.warmed, ?_, ?_, ?_⟩
  · have h := X.room
    have hU : ((T.setVm s.vm).setFrames (.invoking m args :: below)).localsInUse = s.localsInUse := by
      rw [State.localsInUse_invoking hF (meth := meth) (c := c) X.method X.code, State.localsInUse_invoking X.frames X.method X.code]
    simp only [State.hasRoom, Bool.and_eq_true, decide_eq_true_eq] at h ⊢
    obtain ⟨⟨⟨⟨h1, h2, h3, h4, h5, h6⟩, h7⟩, h8⟩, h9⟩ := h
    rw [X.frames, List.length_cons] at h2 h3
    have q1 := X.heapSize
    have q2 := X.used
    simp only [hF, hU, List.length_cons, State.stackLimits_setFrames, State.stackBytes_setFrames, hl9, hb9]
    refine ⟨⟨⟨⟨by omega, by omega, by omega, by omega, by omega, h6⟩, ?_⟩, ?_⟩, X.book⟩
    · show T.heap.size + R'.cells ≤ e.platform.maxCells
      omega
    · show T.slotsUsed + R'.slots ≤ e.platform.maxSlots
      omega
  · rw [State.stackLimits_setFrames]; rfl
  · rw [State.stackBytes_setFrames]; rfl
  · refine ⟨?_, Nat.le_refl _, Nat.le_refl _, ?_, ?_, fun a c9 h9 => ⟨c9, h9, rfl, rfl, fun _ _ => rfl⟩⟩
    · obtain ⟨t, ht, -⟩ := State.frames_cons hr
      show T.setVm s.vm = { ((T.setVm s.vm).setFrames (.invoking m args :: below)).setFrames (T.setVm s.vm).frames with heap := T.heap, slotsUsed := T.slotsUsed }
      rw [State.setFrames_setFrames, State.setFrames_self ht]
      rfl
    · show T.slotsUsed = T.slotsUsed + ((T.heap.toList.drop T.heap.size).map (·.slots.size)).sum
      rw [List.drop_eq_nil_of_le (Nat.le_of_eq Array.length_toList)]
      rfl
    · show ((T.heap.toList.drop T.heap.size).map (·.slots.size)).sum ≤ 0
      rw [List.drop_eq_nil_of_le (Nat.le_of_eq Array.length_toList)]
      exact Nat.le_refl _
/-- 'throw new E()': new; dup; invokespecial; athrow -/
theorem vx_throw0 {cc : ByteArray} {pc : Nat} (hexec : p.tables.exec = Jvm.exec) (hb : c.code = cc) (hl : l.stackTraces = false) {own cls : String} {names : List String} {ik ic mc ms : Nat} {A : Nat → Prop}
    (hown : s.vm.findClass own = some m.cls) (hcls : Bundle.fit cls = true) (hnames : ∀ n ∈ names, Bundle.fit n = true)
    (hk : (Cond.classLink own ik cls).before args s = true) (hini : (Cond.initialized cls).before args s = true) (hat : ∀ w ∈ vx_at0 own ic cls names, w.before args s = true)
    (hgood : ∀ w ∈ Cond.classLink own ik cls :: Cond.initialized cls :: vx_at0 own ic cls names, vx_ot w = true)
    (hU : vx_Zq Bundle.tN "UNASSIGNED_STACK" Bundle.steD A s s.heap) (hN : vx_Zq Bundle.tN "SUPPRESSED_SENTINEL" Bundle.listD A s s.heap) (hS : va_S A s.heap H locs) (hsize : ls.size = c.maxLocals)
    (d0 : decode cc pc = .ok (.new ik, 3)) (d3 : decode cc (pc + 3) = .ok (.dup, 1)) (d4 : decode cc (pc + 4) = .ok (.invokespecial ic, 3)) (d7 : decode cc (pc + 7) = .ok (.athrow, 1))
    (hout : ∀ x ∈ c.exceptionTable.toList, covers x (pc + 7) = false)
    (hRframes : names.length + 3 < R.frames) (hRlocals : (rest.map fun v => v.category).sum + (13 * (names.length + 1) + 42) ≤ R.locals) (hRcells : cells + 1 ≤ R.cells) (hRslots : slots + 6 ≤ R.slots) (hlocks : meth.locks = false)
    (hx : ∀ t : State, s.vm.Alike t.vm → H.size ≤ t.heap.size → (∀ q : Nat, q < H.size → t.heap[q]? = H[q]?) → XC cls s t)
    (hf : ∀ z ∈ locs, free z.base) (hc : cells + 1 ≤ mc) (hs : slots + 6 ≤ ms) :
    W p l e R s m args below meth c H locs cells slots (vx_MQ below Qc XC args s mc ms free) (F0 m pc ls rest) := by
  intro T hT X
  have htr : e.platform.stackTraces = false := (show e.platform.stackTraces = l.stackTraces by rw [X.admits.platform]).trans hl
  have Y := vx_rebase X (R' := { frames := R.frames, locals := R.locals, cells := 1, slots := 6 }) (Nat.le_refl _) (Nat.le_refl _) hRcells hRslots
  obtain ⟨s', hA⟩ : ∃ z, z = (T.setVm s.vm).setFrames (.invoking m args :: below) := ⟨_, rfl⟩
  rw [← hA] at Y
  have hvm : s'.vm = s.vm := by rw [hA]; rfl
  have hhp : s'.heap = H := by rw [hA]; exact hT
  have hW0 : s.WarmedH s'.vm := by rw [hvm]; exact State.WarmedH.refl s
  have hat' : ∀ w ∈ vx_at0 own ic cls names, w.before args s' = true := fun w hw => vx_ot_at hW0 hvm.symm (hgood w (List.mem_cons_of_mem _ (List.mem_cons_of_mem _ hw))) (hat w hw)
  have hk' : (Cond.classLink own ik cls).before args s' = true := vx_ot_at hW0 hvm.symm (hgood _ List.mem_cons_self) hk
  have hini' : (Cond.initialized cls).before args s' = true := vx_ot_at hW0 hvm.symm (hgood _ (List.mem_cons_of_mem _ List.mem_cons_self)) hini
  have hU' : vx_Zq Bundle.tN "UNASSIGNED_STACK" Bundle.steD A s' s'.heap := by rw [hhp]; exact vx_Zq.moved hW0.alike (hU.kept hS.2.1)
  have hN' : vx_Zq Bundle.tN "SUPPRESSED_SENTINEL" Bundle.listD A s' s'.heap := by rw [hhp]; exact vx_Zq.moved hW0.alike (hN.kept hS.2.1)
  have h : ∀ w ∈ Bundle.ownAtoms0 own ic cls names, w.before args s' = true := vx_own hat' (vx_isRefq hU'.1) (vx_isRefq hN'.1) hU'.2.word hN'.2.word
  have hown' : s'.vm.findClass own = some m.cls := by rw [hvm]; exact hown
  have hins : (Cond.instantiable cls 6).before args s' = true := h _ (by simp [Bundle.ownAtoms0])
  obtain ⟨vm₁, cX, kX, hfX, hkX, -, -, X₁, st1⟩ := Y.newCold hexec (own := own) (C := cls) (index := ik) (n := 6) hown' hk' hins hini'
    (g := F0 m pc ls rest) rfl (by rw [hb]; exact d0) (Nat.le_refl _) (Nat.le_refl _)
  generalize hT1 : (T.setVm vm₁).pushCell { cls := cX, slots := kX.instanceTypes.map defaultValue, vm := .none } = T1 at X₁ st1
  have hcat : (Value.ref T.heap.size).category = 1 := rfl
  have hcellA : T1.heap[T.heap.size]? = some (freshCell cX kX) := by rw [← hT1]; exact State.heap_pushCell_size _ _
  have d3' : decode c.code (pc + 3) = .ok (.dup, 1) := by rw [hb]; exact d3
  obtain ⟨U, hsteps, hrun, hend, hW, hsame, ce, hce, hO⟩ := X₁.ctorThrow0 hexec htr (own := own) (cls := cls) (names := names) (ic := ic) hown' hcls hnames h (fun x hx => nomatch hx) hfX hkX hcellA (by rw [hhp, hT]; exact Nat.le_refl _)
    (g := { method := m, pc := pc + 4, locals := ls, stack := .ref T.heap.size :: .ref T.heap.size :: rest, locked := none }) rfl hsize rfl rfl (rest := rest) rfl
    (by rw [hb]; exact d4) (by rw [hb]; exact d7) hout hRframes (by simp only [List.map_cons, List.sum_cons, hcat]; omega) hlocks
  obtain ⟨f1, f2⟩ := vx_frame hsame
  rw [hhp] at f1 f2
  have hWs : s.WarmedH U.vm := State.WarmedH.trans hW0 hW
  have hcl : s.vm.findClass cls = some ce.cls := by
    have h9 := hO.cls
    rw [hvm] at h9
    exact h9
  have hall : s.sameButNew ({ U with vm := s.vm } : State) locs mc ms := by
    subst hA
    obtain ⟨e1, e2⟩ := hsame
    rw [State.setFrames_setFrames] at e1
    have h2 : (T.setVm s.vm).sameButNew ({ U with vm := s.vm } : State) [] (0 + 1) (0 + 6) := ⟨e1, e2⟩
    have h3 := X.same.trans h2
    rw [List.append_nil] at h3
    exact h3.mono hc hs
  refine ⟨U, ?_, .threw T.heap.size, hrun, hend, Or.inr ⟨T.heap.size, rfl, cls, ce, locs, hx U hWs.alike f1 (fun q hq => f2 q hq (fun z hz => nomatch hz)), hce, hO.vm, hcl, hWs, hall, hf⟩⟩
  refine st1 _ ?_
  show Steps p.tables e below (T1.setTop { method := m, pc := pc + 3, locals := ls, stack := .ref T.heap.size :: rest, locked := none }) _
  jvm_step X₁.here [X₁.here.top, hexec, d3', Value.category]
  exact hsteps
/-- 'throw new E("text")': new; dup; ldc; invokespecial; athrow -/
theorem vx_throwS {cc : ByteArray} {pc : Nat} (hexec : p.tables.exec = Jvm.exec) (hb : c.code = cc) (hl : l.stackTraces = false) {own cls text : String} {names : List String} {ik is ic mc ms sa : Nat} {A : Nat → Prop}
    (hown : s.vm.findClass own = some m.cls) (hcls : Bundle.fit cls = true) (hnames : ∀ n ∈ names, Bundle.fit n = true)
    (hk : (Cond.classLink own ik cls).before args s = true) (hini : (Cond.initialized cls).before args s = true) (hstr : vk_R own is text sa s) (hat : ∀ w ∈ vx_atS own ic cls names, w.before args s = true)
    (hgood : ∀ w ∈ Cond.classLink own ik cls :: Cond.initialized cls :: vx_atS own ic cls names, vx_ot w = true)
    (hU : vx_Zq Bundle.tN "UNASSIGNED_STACK" Bundle.steD A s s.heap) (hN : vx_Zq Bundle.tN "SUPPRESSED_SENTINEL" Bundle.listD A s s.heap) (hS : va_S A s.heap H locs) (hsize : ls.size = c.maxLocals)
    (d0 : decode cc pc = .ok (.new ik, 3)) (d3 : decode cc (pc + 3) = .ok (.dup, 1)) (d4 : decode cc (pc + 4) = .ok (.ldc is, 2)) (d6 : decode cc (pc + 6) = .ok (.invokespecial ic, 3)) (d9 : decode cc (pc + 9) = .ok (.athrow, 1))
    (hout : ∀ x ∈ c.exceptionTable.toList, covers x (pc + 9) = false)
    (hRframes : names.length + 3 < R.frames) (hRlocals : (rest.map fun v => v.category).sum + (13 * (names.length + 1) + 43) ≤ R.locals) (hRcells : cells + 1 ≤ R.cells) (hRslots : slots + 6 ≤ R.slots) (hlocks : meth.locks = false)
    (hx : ∀ t : State, s.vm.Alike t.vm → H.size ≤ t.heap.size → (∀ q : Nat, q < H.size → t.heap[q]? = H[q]?) → XC cls s t)
    (hf : ∀ z ∈ locs, free z.base) (hc : cells + 1 ≤ mc) (hs : slots + 6 ≤ ms) :
    W p l e R s m args below meth c H locs cells slots (vx_MQ below Qc XC args s mc ms free) (F0 m pc ls rest) := by
  intro T hT X
  have htr : e.platform.stackTraces = false := (show e.platform.stackTraces = l.stackTraces by rw [X.admits.platform]).trans hl
  have Y := vx_rebase X (R' := { frames := R.frames, locals := R.locals, cells := 1, slots := 6 }) (Nat.le_refl _) (Nat.le_refl _) hRcells hRslots
  obtain ⟨s', hA⟩ : ∃ z, z = (T.setVm s.vm).setFrames (.invoking m args :: below) := ⟨_, rfl⟩
  rw [← hA] at Y
  have hvm : s'.vm = s.vm := by rw [hA]; rfl
  have hhp : s'.heap = H := by rw [hA]; exact hT
  have hW0 : s.WarmedH s'.vm := by rw [hvm]; exact State.WarmedH.refl s
  have hat' : ∀ w ∈ vx_atS own ic cls names, w.before args s' = true := fun w hw => vx_ot_at hW0 hvm.symm (hgood w (List.mem_cons_of_mem _ (List.mem_cons_of_mem _ hw))) (hat w hw)
  have hk' : (Cond.classLink own ik cls).before args s' = true := vx_ot_at hW0 hvm.symm (hgood _ List.mem_cons_self) hk
  have hini' : (Cond.initialized cls).before args s' = true := vx_ot_at hW0 hvm.symm (hgood _ (List.mem_cons_of_mem _ List.mem_cons_self)) hini
  have hU' : vx_Zq Bundle.tN "UNASSIGNED_STACK" Bundle.steD A s' s'.heap := by rw [hhp]; exact vx_Zq.moved hW0.alike (hU.kept hS.2.1)
  have hN' : vx_Zq Bundle.tN "SUPPRESSED_SENTINEL" Bundle.listD A s' s'.heap := by rw [hhp]; exact vx_Zq.moved hW0.alike (hN.kept hS.2.1)
  have h : ∀ w ∈ Bundle.ownAtoms own ic cls names, w.before args s' = true := vx_own hat' (vx_isRefq hU'.1) (vx_isRefq hN'.1) hU'.2.word hN'.2.word
  have hown' : s'.vm.findClass own = some m.cls := by rw [hvm]; exact hown
  have hins : (Cond.instantiable cls 6).before args s' = true := h _ (by simp [Bundle.ownAtoms])
  obtain ⟨vm₁, cX, kX, hfX, hkX, -, -, X₁, st1⟩ := Y.newCold hexec (own := own) (C := cls) (index := ik) (n := 6) hown' hk' hins hini'
    (g := F0 m pc ls rest) rfl (by rw [hb]; exact d0) (Nat.le_refl _) (Nat.le_refl _)
  generalize hT1 : (T.setVm vm₁).pushCell { cls := cX, slots := kX.instanceTypes.map defaultValue, vm := .none } = T1 at X₁ st1
  have hcat : (Value.ref T.heap.size).category = 1 := rfl
  have hcellA : T1.heap[T.heap.size]? = some (freshCell cX kX) := by rw [← hT1]; exact State.heap_pushCell_size _ _
  have d3' : decode c.code (pc + 3) = .ok (.dup, 1) := by rw [hb]; exact d3
  have d4' : decode c.code (pc + 4) = .ok (.ldc is, 2) := by rw [hb]; exact d4
  have hstr' : vk_R own is text sa s' := vk_R.warm hW0 hstr
  obtain ⟨U, hsteps, hrun, hend, hW, hsame, ce, hce, hO⟩ := X₁.ctorThrowS hexec htr (own := own) (cls := cls) (names := names) (ic := ic) hown' hcls hnames h (fun x hx => nomatch hx) hfX hkX hcellA (by rw [hhp, hT]; exact Nat.le_refl _) (msg := .ref sa) rfl
    (g := { method := m, pc := pc + 6, locals := ls, stack := .ref sa :: .ref T.heap.size :: .ref T.heap.size :: rest, locked := none }) rfl hsize rfl rfl (rest := rest) rfl
    (by rw [hb]; exact d6) (by rw [hb]; exact d9) hout hRframes (by simp only [List.map_cons, List.sum_cons, hcat]; omega) hlocks
  obtain ⟨f1, f2⟩ := vx_frame hsame
  rw [hhp] at f1 f2
  have hWs : s.WarmedH U.vm := State.WarmedH.trans hW0 hW
  have hcl : s.vm.findClass cls = some ce.cls := by
    have h9 := hO.cls
    rw [hvm] at h9
    exact h9
  have hall : s.sameButNew ({ U with vm := s.vm } : State) locs mc ms := by
    subst hA
    obtain ⟨e1, e2⟩ := hsame
    rw [State.setFrames_setFrames] at e1
    have h2 : (T.setVm s.vm).sameButNew ({ U with vm := s.vm } : State) [] (0 + 1) (0 + 6) := ⟨e1, e2⟩
    have h3 := X.same.trans h2
    rw [List.append_nil] at h3
    exact h3.mono hc hs
  refine ⟨U, ?_, .threw T.heap.size, hrun, hend, Or.inr ⟨T.heap.size, rfl, cls, ce, locs, hx U hWs.alike f1 (fun q hq => f2 q hq (fun z hz => nomatch hz)), hce, hO.vm, hcl, hWs, hall, hf⟩⟩
  refine st1 _ ?_
  show Steps p.tables e below (T1.setTop { method := m, pc := pc + 3, locals := ls, stack := .ref T.heap.size :: rest, locked := none }) _
  jvm_step X₁.here [X₁.here.top, hexec, d3', Value.category]
  exact X₁.ldcString hexec (own := own) (text := text) (index := is) (a := sa) hown' hstr'.1 hstr'.2
    (g := { method := m, pc := pc + 4, locals := ls, stack := .ref T.heap.size :: .ref T.heap.size :: rest, locked := none }) rfl d4' _ hsteps
/-- 'throw new E("text")', the text by a wide index -/
theorem vx_throwSW {cc : ByteArray} {pc : Nat} (hexec : p.tables.exec = Jvm.exec) (hb : c.code = cc) (hl : l.stackTraces = false) {own cls text : String} {names : List String} {ik is ic mc ms sa : Nat} {A : Nat → Prop}
    (hown : s.vm.findClass own = some m.cls) (hcls : Bundle.fit cls = true) (hnames : ∀ n ∈ names, Bundle.fit n = true)
    (hk : (Cond.classLink own ik cls).before args s = true) (hini : (Cond.initialized cls).before args s = true) (hstr : vk_R own is text sa s) (hat : ∀ w ∈ vx_atS own ic cls names, w.before args s = true)
    (hgood : ∀ w ∈ Cond.classLink own ik cls :: Cond.initialized cls :: vx_atS own ic cls names, vx_ot w = true)
    (hU : vx_Zq Bundle.tN "UNASSIGNED_STACK" Bundle.steD A s s.heap) (hN : vx_Zq Bundle.tN "SUPPRESSED_SENTINEL" Bundle.listD A s s.heap) (hS : va_S A s.heap H locs) (hsize : ls.size = c.maxLocals)
    (d0 : decode cc pc = .ok (.new ik, 3)) (d3 : decode cc (pc + 3) = .ok (.dup, 1)) (d4 : decode cc (pc + 4) = .ok (.ldc_w is, 3)) (d7 : decode cc (pc + 7) = .ok (.invokespecial ic, 3)) (d10 : decode cc (pc + 10) = .ok (.athrow, 1))
    (hout : ∀ x ∈ c.exceptionTable.toList, covers x (pc + 10) = false)
    (hRframes : names.length + 3 < R.frames) (hRlocals : (rest.map fun v => v.category).sum + (13 * (names.length + 1) + 43) ≤ R.locals) (hRcells : cells + 1 ≤ R.cells) (hRslots : slots + 6 ≤ R.slots) (hlocks : meth.locks = false)
    (hx : ∀ t : State, s.vm.Alike t.vm → H.size ≤ t.heap.size → (∀ q : Nat, q < H.size → t.heap[q]? = H[q]?) → XC cls s t)
    (hf : ∀ z ∈ locs, free z.base) (hc : cells + 1 ≤ mc) (hs : slots + 6 ≤ ms) :
    W p l e R s m args below meth c H locs cells slots (vx_MQ below Qc XC args s mc ms free) (F0 m pc ls rest) := by
  intro T hT X
  have htr : e.platform.stackTraces = false := (show e.platform.stackTraces = l.stackTraces by rw [X.admits.platform]).trans hl
  have Y := vx_rebase X (R' := { frames := R.frames, locals := R.locals, cells := 1, slots := 6 }) (Nat.le_refl _) (Nat.le_refl _) hRcells hRslots
  obtain ⟨s', hA⟩ : ∃ z, z = (T.setVm s.vm).setFrames (.invoking m args :: below) := ⟨_, rfl⟩
  rw [← hA] at Y
  have hvm : s'.vm = s.vm := by rw [hA]; rfl
  have hhp : s'.heap = H := by rw [hA]; exact hT
  have hW0 : s.WarmedH s'.vm := by rw [hvm]; exact State.WarmedH.refl s
  have hat' : ∀ w ∈ vx_atS own ic cls names, w.before args s' = true := fun w hw => vx_ot_at hW0 hvm.symm (hgood w (List.mem_cons_of_mem _ (List.mem_cons_of_mem _ hw))) (hat w hw)
  have hk' : (Cond.classLink own ik cls).before args s' = true := vx_ot_at hW0 hvm.symm (hgood _ List.mem_cons_self) hk
  have hini' : (Cond.initialized cls).before args s' = true := vx_ot_at hW0 hvm.symm (hgood _ (List.mem_cons_of_mem _ List.mem_cons_self)) hini
  have hU' : vx_Zq Bundle.tN "UNASSIGNED_STACK" Bundle.steD A s' s'.heap := by rw [hhp]; exact vx_Zq.moved hW0.alike (hU.kept hS.2.1)
  have hN' : vx_Zq Bundle.tN "SUPPRESSED_SENTINEL" Bundle.listD A s' s'.heap := by rw [hhp]; exact vx_Zq.moved hW0.alike (hN.kept hS.2.1)
  have h : ∀ w ∈ Bundle.ownAtoms own ic cls names, w.before args s' = true := vx_own hat' (vx_isRefq hU'.1) (vx_isRefq hN'.1) hU'.2.word hN'.2.word
  have hown' : s'.vm.findClass own = some m.cls := by rw [hvm]; exact hown
  have hins : (Cond.instantiable cls 6).before args s' = true := h _ (by simp [Bundle.ownAtoms])
  obtain ⟨vm₁, cX, kX, hfX, hkX, -, -, X₁, st1⟩ := Y.newCold hexec (own := own) (C := cls) (index := ik) (n := 6) hown' hk' hins hini'
    (g := F0 m pc ls rest) rfl (by rw [hb]; exact d0) (Nat.le_refl _) (Nat.le_refl _)
  generalize hT1 : (T.setVm vm₁).pushCell { cls := cX, slots := kX.instanceTypes.map defaultValue, vm := .none } = T1 at X₁ st1
  have hcat : (Value.ref T.heap.size).category = 1 := rfl
  have hcellA : T1.heap[T.heap.size]? = some (freshCell cX kX) := by rw [← hT1]; exact State.heap_pushCell_size _ _
  have d3' : decode c.code (pc + 3) = .ok (.dup, 1) := by rw [hb]; exact d3
  have d4' : decode c.code (pc + 4) = .ok (.ldc_w is, 3) := by rw [hb]; exact d4
  have hstr' : vk_R own is text sa s' := vk_R.warm hW0 hstr
  obtain ⟨U, hsteps, hrun, hend, hW, hsame, ce, hce, hO⟩ := X₁.ctorThrowS hexec htr (own := own) (cls := cls) (names := names) (ic := ic) hown' hcls hnames h (fun x hx => nomatch hx) hfX hkX hcellA (by rw [hhp, hT]; exact Nat.le_refl _) (msg := .ref sa) rfl
    (g := { method := m, pc := pc + 7, locals := ls, stack := .ref sa :: .ref T.heap.size :: .ref T.heap.size :: rest, locked := none }) rfl hsize rfl rfl (rest := rest) rfl
    (by rw [hb]; exact d7) (by rw [hb]; exact d10) hout hRframes (by simp only [List.map_cons, List.sum_cons, hcat]; omega) hlocks
  obtain ⟨f1, f2⟩ := vx_frame hsame
  rw [hhp] at f1 f2
  have hWs : s.WarmedH U.vm := State.WarmedH.trans hW0 hW
  have hcl : s.vm.findClass cls = some ce.cls := by
    have h9 := hO.cls
    rw [hvm] at h9
    exact h9
  have hall : s.sameButNew ({ U with vm := s.vm } : State) locs mc ms := by
    subst hA
    obtain ⟨e1, e2⟩ := hsame
    rw [State.setFrames_setFrames] at e1
    have h2 : (T.setVm s.vm).sameButNew ({ U with vm := s.vm } : State) [] (0 + 1) (0 + 6) := ⟨e1, e2⟩
    have h3 := X.same.trans h2
    rw [List.append_nil] at h3
    exact h3.mono hc hs
  refine ⟨U, ?_, .threw T.heap.size, hrun, hend, Or.inr ⟨T.heap.size, rfl, cls, ce, locs, hx U hWs.alike f1 (fun q hq => f2 q hq (fun z hz => nomatch hz)), hce, hO.vm, hcl, hWs, hall, hf⟩⟩
  refine st1 _ ?_
  show Steps p.tables e below (T1.setTop { method := m, pc := pc + 3, locals := ls, stack := .ref T.heap.size :: rest, locked := none }) _
  jvm_step X₁.here [X₁.here.top, hexec, d3', Value.category]
  exact X₁.ldcStringW hexec (own := own) (text := text) (index := is) (a := sa) hown' hstr'.1 hstr'.2
    (g := { method := m, pc := pc + 4, locals := ls, stack := .ref T.heap.size :: .ref T.heap.size :: rest, locked := none }) rfl d4' _ hsteps
end Ends
section Bodies
variable {l : Launch}
theorem vx_ofW {y : MethodName} {ws ws' : List Cond} {rm : Room} {Pc : Array Value → State → Prop} {Qc : Array Value → State → Outcome → State → Prop} {XC : String → State → State → Prop} {mc ms : Nat} {free : Addr → Prop} {cc : ByteArray} {maxL : Nat} {ret : Option FieldType}
    (hy : plainName y.cls = true) (hw : ws = Cond.code y cc maxL ret :: ws')
    (body : ∀ p e s m args below meth c s₁, BodyLoose p l y (headSpec ws rm) cc maxL ret e s m args below meth c s₁ → c.maxLocals = maxL → (∀ x ∈ c.exceptionTable.toList, False) → Pc args s →
      W p l e (headSpec ws rm).room s m args below meth c s.heap [] 0 0 (vx_MQ below Qc XC args s mc ms free) (entryFrame m args maxL)) : vx_Met l y ws rm Pc Qc XC mc ms free := by
  refine MetFree.of_bodyS (code := cc) (maxLocals := maxL) (ret := ret) hy ?_ ?_
  · intro args s m h hn
    obtain ⟨meth, c, h1, h2, h3, h4, h5, h6, -, -⟩ := Cond.code_spec hn (atoms_spec (ws := ws) h _ (by rw [hw]; exact List.mem_cons_self))
    exact ⟨meth, c, h1, h2, h3, h4, h5, h6⟩
  · intro p e s m args below meth c s₁ B hml hP _
    have hh0 : s₁.heap = s.heap := by rw [B.state]; rfl
    have ht : ∀ x ∈ c.exceptionTable.toList, False := by
      obtain ⟨meth9, c9, h1, h2, -, -, -, -, h7, -⟩ := Cond.code_spec B.named (atoms_spec (ws := ws) B.pre _ (by rw [hw]; exact List.mem_cons_self))
      cases Option.some.inj (h1.symm.trans B.method)
      cases Option.some.inj (h2.symm.trans (Stand.of_body B).code)
      intro x hx
      rw [Array.isEmpty_iff.mp h7] at hx
      cases hx
    obtain ⟨t, a1, o, b1, b2, b3⟩ := body p e s m args below meth c s₁ B hml ht hP s₁ hh0 (Stand.of_body B)
    exact ⟨t, o, a1, b1, b2, b3⟩
/-- the table of a body with handlers -/
theorem vx_table {p : Program} {x y : MethodName} {S : Spec} {cc bytes : ByteArray} {maxL maxL' : Nat} {ret ret' : Option FieldType} {e : Env} {s s₁ : State} {m : MethodId} {args : Array Value} {below : List Frame} {meth : Method} {c : Code} {hh : List (Nat × Nat × Nat × Nat)}
    (B : BodyLoose p l y S cc maxL ret e s m args below meth c s₁) (h : (Cond.codeWith y bytes maxL' ret' hh).before args s = true) : c.exceptionTable.toList = tableOf hh := by
  obtain ⟨m9, meth9, c9, hn9, h1, h2, -, -, h6, -⟩ := Cond.codeWith_spec h
  cases Option.some.inj (hn9.symm.trans B.named)
  cases Option.some.inj (h1.symm.trans B.method)
  cases Option.some.inj (h2.symm.trans (Stand.of_body B).code)
  rw [← h6, table_eq]
end Bodies
end VXA
/-! ===== END ===== -/
/-! ===== BEGIN a static call of a method with an exception table ===== -/
section VXS
variable {p : Program} {l : Launch} {e : Env} {R : Room} {s : State} {m : MethodId} {args : Array Value} {below : List Frame} {meth : Method} {c : Code} {T : State} {H : Heap} {locs : List Loc} {cells slots : Nat}
abbrev vx_CSW (R : Room) (s : State) (args : Array Value) (own : String) (index : Nat) (y : MethodName) (bytes : ByteArray) (maxL : Nat) (ret : Option FieldType) (hh : List (Nat × Nat × Nat × Nat)) (ws : List Cond) (rm : Room) (mc ms n : Nat) : Prop :=
  (rm.cells = mc ∧ rm.slots = ms ∧ rm.frames + 1 ≤ R.frames ∧ 8 + (maxL + 11) + rm.locals ≤ R.locals ∧ (∀ w ∈ ws, ∀ (a' : Array Value) (U : State), s.WarmedH U.vm → w.before a' U = true) ∧ Cond.codeWith y bytes maxL ret hh ∈ ws) ∧
  (Cond.codeWith y bytes maxL ret hh).before args s = true ∧ (Cond.initialized y.cls).before args s = true ∧ (y.cls ≠ "java/lang/invoke/MethodHandle" ∧ y.cls ≠ "java/lang/invoke/VarHandle") ∧
  (∀ sig, parseMethodDescriptor y.desc = some sig → n = sig.parameters.length) ∧ (Cond.methodLink own index y).before args s = true ∧ (Cond.static y).before args s = true
theorem vx_cwSW {own : String} {index maxL mc ms : Nat} {y : MethodName} {bytes : ByteArray} {ret : Option FieldType} {hh : List (Nat × Nat × Nat × Nat)} {Ts ws ws' : List Cond} {rm : Room} (n : Nat) (ht : ∀ w ∈ Ts, w.before args s = true) (hT : GoodIn Ts (va_wsS own index y ws)) (hw : ws = Cond.codeWith y bytes maxL ret hh :: ws') (hrc : rm.cells = mc) (hrs : rm.slots = ms)
    (hd : y.cls ≠ "java/lang/invoke/MethodHandle" ∧ y.cls ≠ "java/lang/invoke/VarHandle" ∧ (parseMethodDescriptor y.desc).map (fun d => d.parameters.length) = some n) (hR : rm.frames + 1 ≤ R.frames ∧ 8 + (maxL + 11) + rm.locals ≤ R.locals) :
    vx_CSW R s args own index y bytes maxL ret hh ws rm mc ms n := by
  have ok : ∀ w ∈ va_wsS own index y ws, w.before args s = true := fun w h => ht w (hT w h).1
  have hG : GoodIn Ts ws := fun w h => hT w (by unfold va_wsS; exact List.mem_append_right _ h)
  have hc : Cond.codeWith y bytes maxL ret hh ∈ ws := by rw [hw]; exact List.mem_cons_self
  refine ⟨⟨hrc, hrs, hR.1, hR.2, pay_in ht hG, hc⟩, ht _ (hG _ hc).1, ok _ (by simp [va_wsS]), ⟨hd.1, hd.2.1⟩, fun sig h => ?_, ok _ (by simp [va_wsS]), ok _ (by simp [va_wsS])⟩
  have h2 := hd.2.2
  rw [h] at h2
  exact (Option.some.inj h2).symm
theorem vx_callSW (X : Stand p l e R s m args below meth c T locs cells slots) (hexec : p.tables.exec = Jvm.exec) {own : String} {index : Nat} {y : MethodName} {bytes : ByteArray} {maxL : Nat} {ret : Option FieldType} {hh : List (Nat × Nat × Nat × Nat)}
    (hown : s.vm.findClass own = some m.cls) (hlink : (Cond.methodLink own index y).before args s = true) (hstat : (Cond.static y).before args s = true) (hinit : (Cond.initialized y.cls).before args s = true)
    (hcode : (Cond.codeWith y bytes maxL ret hh).before args s = true) (hy : y.cls ≠ "java/lang/invoke/MethodHandle" ∧ y.cls ≠ "java/lang/invoke/VarHandle")
    {W9 : Nat} {Pre : Pt → Array Value → Prop} {Post : Pt → Array Value → Option Value → Pt → Prop} (hK : Back l R p e below s args y 3 W9 Pre Post)
    {g : JFrame} (hg : g.method = m) (hsize : g.locals.size = c.maxLocals) {argsL rest : List Value} (hlen : ∀ sig, parseMethodDescriptor y.desc = some sig → argsL.length = sig.parameters.length)
    (hstack : g.stack = argsL.reverse ++ rest) (hW : 2 * g.monitorRoom + (rest.map fun v => v.category).sum ≤ W9) (hdg : decode c.code g.pc = .ok (.invokestatic index, 3))
    (hpre : ∀ vm₁, s.WarmedH vm₁ → Pre ⟨T.setVm vm₁, locs, cells, slots⟩ argsL.toArray) :
    ∃ (v : Option Value) (vm₁ : Vm) (B : Pt), s.WarmedH vm₁ ∧ Stand p l e R s m args below meth c B.U B.locs B.cells B.slots ∧ Post ⟨T.setVm vm₁, locs, cells, slots⟩ argsL.toArray v B ∧
      ∀ target, Steps p.tables e below (B.U.setTop { g with pc := g.pc + 3, stack := v.toList ++ rest }) target → Steps p.tables e below (T.setTop g) target := by
  obtain ⟨mk, methM, cM, hnamed, hmethM, -, -, -, -, -, -, hsigM⟩ := Cond.codeWith_spec hcode
  have hstatic : methM.isStatic = true := Cond.static_spec hnamed hmethM hstat
  obtain ⟨kP, hkP, -⟩ := className_of_methodNamed hnamed
  have hinitP : kP.init = .initialized := Cond.initialized_spec (findClass_of_methodNamed hnamed) hkP hinit
  obtain ⟨vm₁, X₁, hstep₁⟩ := X.invokestatic hexec hown hlink hnamed hmethM hstatic hkP hinitP hy (g := g) hg (argsL := argsL) (rest := rest) (hlen _ hsigM) hstack hdg
  obtain ⟨v, B, X', hpost, hsteps⟩ := hK m meth c ⟨T.setVm vm₁, locs, cells, slots⟩ { g with stack := rest } (.invokestatic index) mk argsL.toArray X₁ hg hsize hdg hW (X₁.named hnamed) (hpre vm₁ X₁.warmed)
  exact ⟨v, vm₁, B, X₁.warmed, X', hpost, fun target h => hstep₁ _ fun acts => by rw [doInvoke_state]; exact hsteps.trans h⟩
theorem vx_runSW {y : MethodName} {bytes cc : ByteArray} {maxL nL mc ms n index : Nat} {ret : Option FieldType} {hh : List (Nat × Nat × Nat × Nat)} {ws : List Cond} {rm : Room} {Pc : Array Value → State → Prop} {Qc : Array Value → State → Outcome → State → Prop} {free : Addr → Prop} {Ts : List Cond} {own : String} {As rest : List Value} {g : JFrame}
    (S : CallFix p m c cc nL s args Ts own) (hM : Met l y ws rm Pc Qc mc ms free) (cw : vx_CSW R s args own index y bytes maxL ret hh ws rm mc ms n) (hp : PreS s H Pc As)
    (hg : g.method = m) (hn : As.length = n) (hsize : g.locals.size = nL) (hstack : g.stack = As.reverse ++ rest) (hW : 2 * g.monitorRoom + (rest.map fun v => v.category).sum ≤ 8) (hdg : decode cc g.pc = .ok (.invokestatic index, 3)) (hf : cells + mc ≤ R.cells ∧ slots + ms ≤ R.slots) :
    va_Run p l e R s m args below meth c H locs cells slots mc ms g rest (Qc As.toArray) (free) := by
  obtain ⟨⟨hrc, hrs, hfr, hlo, hws, hcw⟩, hcode, hini, hy, hlen, hl, hstt⟩ := cw
  have hK : Back l R p e below s args y 3 8 (PreOf R mc ms Pc) (PostOf Qc mc ms free) := va_backW (hh := hh) (bytes := bytes) (maxL := maxL) (ret := ret) hM hp.1 hrc hrs hfr hlo hws hcw (fun a' U hW => word_at hW (Or.inl (by first | rfl | simp [Cond.onTables, Cond.keeps, Cond.steady])) hini)
  obtain ⟨hx, hb, hml, ho, -⟩ := S
  intro T hT X
  obtain ⟨v, vm₁, ⟨U', l2, c2, s2⟩, hW₁, X', ⟨g', mk, t, L, e1, e2, hq, h1, hL, h2, h3⟩, st⟩ := vx_callSW X hx (hh := hh) (bytes := bytes) (maxL := maxL) (ret := ret) ho hl hstt hini hcode hy hK hg (hsize.trans hml.symm) (argsL := As) (rest := rest) (fun sig h => hn.trans (hlen sig h)) hstack hW (by rw [hb]; exact hdg)
    (fun vm₁ hW₁ => ⟨hf.1, hf.2, hp.2 (T.setVm vm₁) hT hW₁⟩)
  dsimp only [Pt.U, Pt.locs, Pt.cells, Pt.slots] at X' e1 e2 h1 h2 h3 st
  subst h1; subst h2; subst h3
  exact ⟨v, (T.setVm vm₁).calling g' mk As.toArray, t, U', L, hT, X', hL, e1, e2, hq, st⟩
/-- not caught here, past rows that name other classes: it goes on to the caller -/
theorem vx_outP {p : Program} {l : Launch} {e : Env} {R : Room} {s : State} {m : MethodId} {args : Array Value} {below : List Frame} {meth : Method} {c : Code} {H : Heap} {locs : List Loc} {cells slots : Nat} {free : Addr → Prop} {ls : Array Slot} {rest : List Value} {Qc : Array Value → State → Outcome → State → Prop} {XC : String → State → State → Prop}
    {pc : Nat} {own E : String} {ce : Cell} {q : Addr} {mc ms : Nat} (hown : s.vm.findClass own = some m.cls) (hlocks : meth.locks = false)
    (hpass : ∀ z ∈ c.exceptionTable.toList, covers z pc = false ∨ (z.catchType ≠ 0 ∧ ∃ nm : String, (Cond.classLink own z.catchType nm).before args s = true ∧ va_Nc E nm s)) (hcell : H[q]? = some ce) (hv : ce.vm = .none) (hcl : s.vm.findClass E = some ce.cls)
    (hx : ∀ t : State, t.heap = H → s.vm.Alike t.vm → XC E s t) (hf : ∀ z ∈ locs, free z.base) (hc : cells ≤ mc) (hs : slots ≤ ms) :
    vx_W p l e R s m args below meth c H locs cells slots (vx_MQ below Qc XC args s mc ms free) (F0 m pc ls rest) q := by
  intro T hT X
  have hpl : e.platform.magicAccessors = ({} : Platform).magicAccessors := by rw [X.admits.platform]
  obtain ⟨vm', hW', X', st⟩ := X.outThrough hlocks q (g := F0 m pc ls rest) rfl rfl rfl (cell := ce) (by rw [hT]; exact hcell) (by rw [hv]; rfl)
    (by obtain ⟨k9, h9, -⟩ := Vm.findClass_spec hcl; exact ⟨k9, h9⟩) (fun z hz => by
      rcases hpass z hz with h | ⟨hz0, nm, hl1, hn1⟩
      · exact Or.inl h
      · obtain ⟨c6, hc6, hcl6⟩ := Cond.classLink_spec hown hl1 e.platform hpl
        obtain ⟨a8, b8, h1, h2, h3⟩ := hn1
        cases Option.some.inj (h1.symm.trans hcl)
        cases Option.some.inj (h2.symm.trans hc6)
        exact Or.inr ⟨hz0, _, hcl6, h3⟩)
  obtain ⟨g₀, hfr⟩ := X'.frames_eq
  have hcell9 : ((T.setVm vm').setFrames (.throwing q :: below)).heap[q]? = some ce := by
    show T.heap[q]? = some ce
    rw [hT]; exact hcell
  have hend : Ended ((T.setVm vm').setFrames (.throwing q :: below)) below (.threw q) := State.frames_setFrames _ (State.cur_lt_of_frames hfr)
  refine ⟨(T.setVm vm').setFrames (.throwing q :: below), ?_, .threw q, X'.here.running, hend, Or.inr ⟨q, rfl, E, ce, locs, hx _ hT (X'.ends _).1.alike, hcell9, hv, hcl, (X'.ends _).1, (X'.ends _).2.mono hc hs, hf⟩⟩
  rw [X.pushThrowing_eq]
  exact st
/-- a thing of a world lies in the heap -/
theorem vx_lt {D : va_G} {cl : List vw_C} {ws : va_W} {H1 : Heap} (h : va_P D cl ws H1) {k : Nat} {q : Nat × va_E} (hk : ws[k]? = some q) : q.1 < H1.size := (h k q hk).lt
end VXS
/-! ===== END ===== -/
/-! ===== BEGIN methods with a table of their own: called by a name, returning or throwing ===== -/
section VXH
/-! vx_backW, vx_callVX, vx_callSX, vx_callVW, vx_runVW, vx_runVX, vx_runSX, vx_ofWH follow the same proofs as their sisters above (Free/Laws.lean, Shelf42/LK1.lean); vx_outP calls Shelf42/NT130.lean (outThrough). -/
section
variable {l : Launch} {R : Room} {p : Program} {e : Env} {below : List Frame} {s : State} {sargs : Array Value} {y : MethodName} {len W9 : Nat}
theorem vx_backW {ws : List Cond} {rm : Room} {Pc : Array Value → State → Prop} {Qc : Array Value → State → Outcome → State → Prop} {XC : String → State → State → Prop} {mc ms : Nat} {free : Addr → Prop} {bytes : ByteArray} {maxL : Nat} {ret : Option FieldType} {hh : List (Nat × Nat × Nat × Nat)}
    (hM : vx_Met l y ws rm Pc Qc XC mc ms free) (hblind : FrameBlind Pc) (hrc : rm.cells = mc) (hrs : rm.slots = ms)
    (hframes : rm.frames + 1 ≤ R.frames) (hlocals : W9 + (maxL + 11) + rm.locals ≤ R.locals)
    (hws : ∀ w ∈ ws, ∀ a' U, s.WarmedH U.vm → w.before a' U = true) (hcode : Cond.codeWith y bytes maxL ret hh ∈ ws) (hinit : ∀ a' U, s.WarmedH U.vm → (Cond.initialized y.cls).before a' U = true) :
    vx_Back l R p e below s sargs y len W9 (PreOf R mc ms Pc) (PostOf Qc mc ms free) (vx_Post XC mc ms free) := by
  intro m meth c A g ig mk a X hg hsize hdg hW hn hp
  have h1 : (headSpec ws rm).pre.before a A.U = true := atoms_intro fun w hw => hws w hw _ _ X.warmed
  have h2 : (Cond.codeWith y bytes maxL ret hh).before a A.U = true := hws _ hcode _ _ X.warmed
  have h3 : (Cond.initialized y.cls).before a A.U = true := hinit _ _ X.warmed
  have h4 : A.cells + (headSpec ws rm).room.cells ≤ R.cells := by rw [show (headSpec ws rm).room.cells = mc from hrc]; exact hp.1
  have h5 : A.slots + (headSpec ws rm).room.slots ≤ R.slots := by rw [show (headSpec ws rm).room.slots = ms from hrs]; exact hp.2.1
  have hPc : Pc a (A.U.calling g mk a) := hblind _ _ _ _ hp.2.2
  obtain ⟨U, Ls, c0, s0⟩ := A
  dsimp only [Pt.U, Pt.locs, Pt.cells, Pt.slots] at h1 h2 h3 h4 h5 X hn hPc ⊢
  obtain ⟨m9, methY, cY, hn9, hmY, hcY, -, hlY, -⟩ := Cond.codeWith_spec h2
  cases Option.some.inj (hn9.symm.trans hn)
  obtain ⟨kY, hkY, -⟩ := className_of_methodNamed hn
  have hinitY : kY.init = .initialized := Cond.initialized_spec (findClass_of_methodNamed hn) hkY h3
  have h : At U g.method c below := by rw [hg]; exact X.here
  have hlocals9 : W9 + (maxL + 11) + (headSpec ws rm).room.locals ≤ R.locals := hlocals
  have happ : (headSpec ws rm).appliesLoose y e.platform (U.calling g mk a) = true :=
    Spec.appliesLoose_calling (g := g) h hdg hn hkY hinitY
      (X.room_calling (g := g) (R' := (headSpec ws rm).room) hsize hmY hcY hframes (by rw [hlY]; omega) h4 h5) h1
  obtain ⟨mid, hmid⟩ := h.above
  have hfr : (U.setTop g).frames = (.java g :: mid) ++ below := by rw [State.frames_setTop' g h.top, hmid]; rfl
  obtain ⟨o, s₂, hsteps, -, hend, hq⟩ := Steps.callFree hM p X.admits X.cas X.clock (acts := []) hfr happ hPc trivial
  have hq' : vx_Q Qc XC mc ms free a (U.calling g mk a) o s₂ := hq
  rw [State.frames_setTop' g h.top] at hend
  obtain ⟨g₀, hg0⟩ := Option.isSome_iff_exists.mp h.top
  obtain ⟨r, hr⟩ := State.topJava?_eq_some.mp hg0
  have hr' : (({ U with heap := s₂.heap, slotsUsed := s₂.slotsUsed } : State).setVm s₂.vm).frames = .java g₀ :: r := hr
  rcases hq' with ⟨hqc, L, hfe, hL⟩ | ⟨q, rfl, E, ce, L, hx, hce, hcv, hcl, hW₂, hsm, hL⟩
  · obtain ⟨⟨v, rfl⟩, hW₂, e2, q2, q3, q4, q5, q6⟩ := id hfe
    have e3 : s₂ = ({ (U.calling g mk a).setFrames s₂.frames with heap := s₂.heap, slotsUsed := s₂.slotsUsed } : State).setVm s₂.vm := by
      have : s₂ = ({ s₂ with vm := (U.calling g mk a).vm } : State).setVm s₂.vm := rfl
      rw [e2] at this
      exact this
    obtain ⟨c₂, i₂, len₂, hc₂, hd₂, hf₂⟩ := hend
    have hW' : U.WarmedH s₂.vm := hW₂
    have hcc : c₂ = c := by
      have h1 : s₂.code? g.method = U.code? g.method := by
        rw [State.code?_eq, State.code?_eq, hW'.alike.method?]
      exact Option.some.inj (hc₂.symm.trans (h1.trans h.code))
    subst hcc
    have hlen : len₂ = len := by rw [hdg] at hd₂; cases hd₂; rfl
    subst hlen
    have hs₂ : s₂ = (({ U with heap := s₂.heap, slotsUsed := s₂.slotsUsed } : State).setVm s₂.vm).setTop { g with pc := g.pc + len₂, stack := v.toList ++ g.stack } := by
      refine e3.trans ?_
      rw [hf₂, State.calling_eq h.top, State.setFrames_setFrames, State.setTop_of_frames _ hr', hr]
      rfl
    have hsame : U.sameButNew ({ U with heap := s₂.heap, slotsUsed := s₂.slotsUsed } : State) L mc ms := by
      refine ⟨?_, q2, q3, q4, q5, q6⟩
      obtain ⟨t, ht, -⟩ := State.frames_cons hr
      show ({ U with heap := s₂.heap, slotsUsed := s₂.slotsUsed } : State) = { U.setFrames U.frames with heap := s₂.heap, slotsUsed := s₂.slotsUsed }
      rw [State.setFrames_self ht]
    subst hg
    refine Or.inl ⟨v, ⟨(({ U with heap := s₂.heap, slotsUsed := s₂.slotsUsed } : State).setVm s₂.vm), Ls ++ L, c0 + mc, s0 + ms⟩,
      ⟨X.admits, X.cas, X.clock, X.frames, X.room, X.hears, X.method, X.code, (X.here.setHeapUsed s₂.heap s₂.slotsUsed).setVm hW'.alike, X.tail, State.WarmedH.trans X.warmed hW', X.limits, X.bytes, X.same.trans (hsame.setVm s.vm)⟩,
      ⟨g, mk, s₂, L, rfl, rfl, hqc, rfl, hL, rfl, rfl⟩, ?_⟩
    show Steps p.tables e below _ ((({ U with heap := s₂.heap, slotsUsed := s₂.slotsUsed } : State).setVm s₂.vm).setTop { g with pc := g.pc + len₂, stack := v.toList ++ g.stack })
    rw [← hs₂]
    exact hsteps
  · obtain ⟨e2, q2, q3, q4, q5, q6⟩ := id hsm
    have e3 : s₂ = ({ (U.calling g mk a).setFrames s₂.frames with heap := s₂.heap, slotsUsed := s₂.slotsUsed } : State).setVm s₂.vm := by
      have : s₂ = ({ s₂ with vm := (U.calling g mk a).vm } : State).setVm s₂.vm := rfl
      rw [e2] at this
      exact this
    have hf₂ : s₂.frames = .throwing q :: .java g :: U.frames.tail := hend
    have hW' : U.WarmedH s₂.vm := hW₂
    have hs₂ : s₂ = ((({ U with heap := s₂.heap, slotsUsed := s₂.slotsUsed } : State).setVm s₂.vm).setTop g).pushFrame (.throwing q) := by
      refine e3.trans ?_
      rw [hf₂, State.calling_eq h.top, State.setFrames_setFrames, State.pushFrame, State.frames_setTop _ hr', State.setTop_of_frames _ hr', State.setFrames_setFrames, hr]
      rfl
    have hsame : U.sameButNew ({ U with heap := s₂.heap, slotsUsed := s₂.slotsUsed } : State) L mc ms := by
      refine ⟨?_, q2, q3, q4, q5, q6⟩
      obtain ⟨t, ht, -⟩ := State.frames_cons hr
      show ({ U with heap := s₂.heap, slotsUsed := s₂.slotsUsed } : State) = { U.setFrames U.frames with heap := s₂.heap, slotsUsed := s₂.slotsUsed }
      rw [State.setFrames_self ht]
    subst hg
    refine Or.inr ⟨q, ⟨(({ U with heap := s₂.heap, slotsUsed := s₂.slotsUsed } : State).setVm s₂.vm), Ls ++ L, c0 + mc, s0 + ms⟩,
      ⟨X.admits, X.cas, X.clock, X.frames, X.room, X.hears, X.method, X.code, (X.here.setHeapUsed s₂.heap s₂.slotsUsed).setVm hW'.alike, X.tail, State.WarmedH.trans X.warmed hW', X.limits, X.bytes, X.same.trans (hsame.setVm s.vm)⟩,
      ⟨g, mk, s₂, L, E, ce, rfl, rfl, hx, hce, hcv, hcl, rfl, hL, rfl, rfl⟩, ?_⟩
    show Steps p.tables e below _ (((({ U with heap := s₂.heap, slotsUsed := s₂.slotsUsed } : State).setVm s₂.vm).setTop g).pushFrame (.throwing q))
    rw [← hs₂]
    exact hsteps
end
variable {p : Program} {l : Launch} {e : Env} {R : Room} {s : State} {m : MethodId} {args : Array Value} {below : List Frame} {meth : Method} {c : Code} {T : State} {H : Heap} {locs : List Loc} {cells slots : Nat}
theorem vx_callVX (X : Stand p l e R s m args below meth c T locs cells slots) (hexec : p.tables.exec = Jvm.exec) {own C : String} {index : Nat} {y : MethodName} {bytes : ByteArray} {maxL : Nat} {ret : Option FieldType} {hh : List (Nat × Nat × Nat × Nat)}
    (hown : s.vm.findClass own = some m.cls) (hlink : (Cond.methodLink own index y).before args s = true) (hinst : (Cond.instanceMethod y).before args s = true) (hsel : (Cond.selects C y y).before args s = true)
    (hcode : (Cond.codeWith y bytes maxL ret hh).before args s = true) (hy : y.cls ≠ "java/lang/invoke/MethodHandle" ∧ y.cls ≠ "java/lang/invoke/VarHandle")
    {W9 : Nat} {Pre : Pt → Array Value → Prop} {Post : Pt → Array Value → Option Value → Pt → Prop} {PostX : Pt → Array Value → Addr → Pt → Prop} (hK : vx_Back l R p e below s args y 3 W9 Pre Post PostX)
    {b : Addr} {cellB : Cell} (hcell : T.heap[b]? = some cellB) (hobj : cellB.vm.isStatics = false) (hcls : s.vm.findClass C = some cellB.cls)
    {g : JFrame} (hg : g.method = m) (hsize : g.locals.size = c.maxLocals) {argsL rest : List Value} (hlen : ∀ sig, parseMethodDescriptor y.desc = some sig → argsL.length = sig.parameters.length)
    (hstack : g.stack = argsL.reverse ++ .ref b :: rest) (hW : 2 * g.monitorRoom + (rest.map fun v => v.category).sum ≤ W9) (hdg : decode c.code g.pc = .ok (.invokevirtual index, 3))
    (hpre : ∀ vm₁, s.WarmedH vm₁ → Pre ⟨T.setVm vm₁, locs, cells, slots⟩ (Value.ref b :: argsL).toArray) :
    (∃ (v : Option Value) (vm₁ : Vm) (B : Pt), s.WarmedH vm₁ ∧ Stand p l e R s m args below meth c B.U B.locs B.cells B.slots ∧ Post ⟨T.setVm vm₁, locs, cells, slots⟩ (Value.ref b :: argsL).toArray v B ∧
      ∀ target, Steps p.tables e below (B.U.setTop { g with pc := g.pc + 3, stack := v.toList ++ rest }) target → Steps p.tables e below (T.setTop g) target) ∨
    (∃ (q : Addr) (vm₁ : Vm) (B : Pt), s.WarmedH vm₁ ∧ Stand p l e R s m args below meth c B.U B.locs B.cells B.slots ∧ PostX ⟨T.setVm vm₁, locs, cells, slots⟩ (Value.ref b :: argsL).toArray q B ∧
      Steps p.tables e below (T.setTop g) ((B.U.setTop { g with stack := rest }).pushFrame (.throwing q))) := by
  obtain ⟨mk, methM, hnamed, hmethM, hstM, habM⟩ := Cond.instanceMethod_spec hinst
  obtain ⟨m8, methM', cM, hn8, hmethM', -, -, -, -, -, -, hsigM⟩ := Cond.codeWith_spec hcode
  cases Option.some.inj (hn8.symm.trans hnamed)
  cases hmethM.symm.trans hmethM'
  obtain ⟨c2, r2, m2, q1, q2, q3, q4, kP, hkP, hkPi⟩ := Cond.selects_spec hsel
  cases hcls.symm.trans q1
  cases (State.methodFound?_of_named hnamed hy).symm.trans q2
  cases hnamed.symm.trans q3
  have hselP : selectMethod e.platform s.vm cellB.cls mk = .method mk := by rw [Launch.admits_selectMethod X.admits]; exact q4
  obtain ⟨vm₁, X₁, hstep₁⟩ := X.invokevirtual hexec hown hlink hnamed hmethM hstM hkP hkPi hy (a := b) (cell := cellB) hcell
    (fun z h => by rw [h] at hobj; cases hobj) hselP hmethM habM hkP hkPi (g := g) hg (argsL := argsL) (rest := rest) (hlen _ hsigM) hstack hdg
  rcases hK m meth c ⟨T.setVm vm₁, locs, cells, slots⟩ { g with stack := rest } (.invokevirtual index) mk (Value.ref b :: argsL).toArray X₁ hg hsize hdg hW (X₁.named hnamed) (hpre vm₁ X₁.warmed) with ⟨v, B, X', hpost, hsteps⟩ | ⟨q, B, X', hpost, hsteps⟩
  · exact Or.inl ⟨v, vm₁, B, X₁.warmed, X', hpost, fun target h => hstep₁ _ fun acts => by rw [doInvoke_state]; exact hsteps.trans h⟩
  · exact Or.inr ⟨q, vm₁, B, X₁.warmed, X', hpost, hstep₁ _ fun acts => by rw [doInvoke_state]; exact hsteps⟩
theorem vx_callSX (X : Stand p l e R s m args below meth c T locs cells slots) (hexec : p.tables.exec = Jvm.exec) {own : String} {index : Nat} {y : MethodName} {bytes : ByteArray} {maxL : Nat} {ret : Option FieldType} {hh : List (Nat × Nat × Nat × Nat)}
    (hown : s.vm.findClass own = some m.cls) (hlink : (Cond.methodLink own index y).before args s = true) (hstat : (Cond.static y).before args s = true) (hinit : (Cond.initialized y.cls).before args s = true)
    (hcode : (Cond.codeWith y bytes maxL ret hh).before args s = true) (hy : y.cls ≠ "java/lang/invoke/MethodHandle" ∧ y.cls ≠ "java/lang/invoke/VarHandle")
    {W9 : Nat} {Pre : Pt → Array Value → Prop} {Post : Pt → Array Value → Option Value → Pt → Prop} {PostX : Pt → Array Value → Addr → Pt → Prop} (hK : vx_Back l R p e below s args y 3 W9 Pre Post PostX)
    {g : JFrame} (hg : g.method = m) (hsize : g.locals.size = c.maxLocals) {argsL rest : List Value} (hlen : ∀ sig, parseMethodDescriptor y.desc = some sig → argsL.length = sig.parameters.length)
    (hstack : g.stack = argsL.reverse ++ rest) (hW : 2 * g.monitorRoom + (rest.map fun v => v.category).sum ≤ W9) (hdg : decode c.code g.pc = .ok (.invokestatic index, 3))
    (hpre : ∀ vm₁, s.WarmedH vm₁ → Pre ⟨T.setVm vm₁, locs, cells, slots⟩ argsL.toArray) :
    (∃ (v : Option Value) (vm₁ : Vm) (B : Pt), s.WarmedH vm₁ ∧ Stand p l e R s m args below meth c B.U B.locs B.cells B.slots ∧ Post ⟨T.setVm vm₁, locs, cells, slots⟩ argsL.toArray v B ∧
      ∀ target, Steps p.tables e below (B.U.setTop { g with pc := g.pc + 3, stack := v.toList ++ rest }) target → Steps p.tables e below (T.setTop g) target) ∨
    (∃ (q : Addr) (vm₁ : Vm) (B : Pt), s.WarmedH vm₁ ∧ Stand p l e R s m args below meth c B.U B.locs B.cells B.slots ∧ PostX ⟨T.setVm vm₁, locs, cells, slots⟩ argsL.toArray q B ∧
      Steps p.tables e below (T.setTop g) ((B.U.setTop { g with stack := rest }).pushFrame (.throwing q))) := by
  obtain ⟨mk, methM, cM, hnamed, hmethM, -, -, -, -, -, -, hsigM⟩ := Cond.codeWith_spec hcode
  have hstatic : methM.isStatic = true := Cond.static_spec hnamed hmethM hstat
  obtain ⟨kP, hkP, -⟩ := className_of_methodNamed hnamed
  have hinitP : kP.init = .initialized := Cond.initialized_spec (findClass_of_methodNamed hnamed) hkP hinit
  obtain ⟨vm₁, X₁, hstep₁⟩ := X.invokestatic hexec hown hlink hnamed hmethM hstatic hkP hinitP hy (g := g) hg (argsL := argsL) (rest := rest) (hlen _ hsigM) hstack hdg
  rcases hK m meth c ⟨T.setVm vm₁, locs, cells, slots⟩ { g with stack := rest } (.invokestatic index) mk argsL.toArray X₁ hg hsize hdg hW (X₁.named hnamed) (hpre vm₁ X₁.warmed) with ⟨v, B, X', hpost, hsteps⟩ | ⟨q, B, X', hpost, hsteps⟩
  · exact Or.inl ⟨v, vm₁, B, X₁.warmed, X', hpost, fun target h => hstep₁ _ fun acts => by rw [doInvoke_state]; exact hsteps.trans h⟩
  · exact Or.inr ⟨q, vm₁, B, X₁.warmed, X', hpost, hstep₁ _ fun acts => by rw [doInvoke_state]; exact hsteps⟩
theorem vx_callVW (X : Stand p l e R s m args below meth c T locs cells slots) (hexec : p.tables.exec = Jvm.exec) {own C : String} {index : Nat} {y : MethodName} {bytes : ByteArray} {maxL : Nat} {ret : Option FieldType} {hh : List (Nat × Nat × Nat × Nat)}
    (hown : s.vm.findClass own = some m.cls) (hlink : (Cond.methodLink own index y).before args s = true) (hinst : (Cond.instanceMethod y).before args s = true) (hsel : (Cond.selects C y y).before args s = true)
    (hcode : (Cond.codeWith y bytes maxL ret hh).before args s = true) (hy : y.cls ≠ "java/lang/invoke/MethodHandle" ∧ y.cls ≠ "java/lang/invoke/VarHandle")
    {W9 : Nat} {Pre : Pt → Array Value → Prop} {Post : Pt → Array Value → Option Value → Pt → Prop} (hK : Back l R p e below s args y 3 W9 Pre Post)
    {b : Addr} {cellB : Cell} (hcell : T.heap[b]? = some cellB) (hobj : cellB.vm.isStatics = false) (hcls : s.vm.findClass C = some cellB.cls)
    {g : JFrame} (hg : g.method = m) (hsize : g.locals.size = c.maxLocals) {argsL rest : List Value} (hlen : ∀ sig, parseMethodDescriptor y.desc = some sig → argsL.length = sig.parameters.length)
    (hstack : g.stack = argsL.reverse ++ .ref b :: rest) (hW : 2 * g.monitorRoom + (rest.map fun v => v.category).sum ≤ W9) (hdg : decode c.code g.pc = .ok (.invokevirtual index, 3))
    (hpre : ∀ vm₁, s.WarmedH vm₁ → Pre ⟨T.setVm vm₁, locs, cells, slots⟩ (Value.ref b :: argsL).toArray) :
    ∃ (v : Option Value) (vm₁ : Vm) (B : Pt), s.WarmedH vm₁ ∧ Stand p l e R s m args below meth c B.U B.locs B.cells B.slots ∧ Post ⟨T.setVm vm₁, locs, cells, slots⟩ (Value.ref b :: argsL).toArray v B ∧
      ∀ target, Steps p.tables e below (B.U.setTop { g with pc := g.pc + 3, stack := v.toList ++ rest }) target → Steps p.tables e below (T.setTop g) target := by
  obtain ⟨mk, methM, hnamed, hmethM, hstM, habM⟩ := Cond.instanceMethod_spec hinst
  obtain ⟨m8, methM', cM, hn8, hmethM', -, -, -, -, -, -, hsigM⟩ := Cond.codeWith_spec hcode
  cases Option.some.inj (hn8.symm.trans hnamed)
  cases hmethM.symm.trans hmethM'
  obtain ⟨c2, r2, m2, q1, q2, q3, q4, kP, hkP, hkPi⟩ := Cond.selects_spec hsel
  cases hcls.symm.trans q1
  cases (State.methodFound?_of_named hnamed hy).symm.trans q2
  cases hnamed.symm.trans q3
  have hselP : selectMethod e.platform s.vm cellB.cls mk = .method mk := by rw [Launch.admits_selectMethod X.admits]; exact q4
  obtain ⟨vm₁, X₁, hstep₁⟩ := X.invokevirtual hexec hown hlink hnamed hmethM hstM hkP hkPi hy (a := b) (cell := cellB) hcell
    (fun z h => by rw [h] at hobj; cases hobj) hselP hmethM habM hkP hkPi (g := g) hg (argsL := argsL) (rest := rest) (hlen _ hsigM) hstack hdg
  obtain ⟨v, B, X', hpost, hsteps⟩ := hK m meth c ⟨T.setVm vm₁, locs, cells, slots⟩ { g with stack := rest } (.invokevirtual index) mk (Value.ref b :: argsL).toArray X₁ hg hsize hdg hW (X₁.named hnamed) (hpre vm₁ X₁.warmed)
  exact ⟨v, vm₁, B, X₁.warmed, X', hpost, fun target h => hstep₁ _ fun acts => by rw [doInvoke_state]; exact hsteps.trans h⟩
abbrev vx_CVW (R : Room) (s : State) (args : Array Value) (own C : String) (index : Nat) (y : MethodName) (bytes : ByteArray) (maxL : Nat) (ret : Option FieldType) (hh : List (Nat × Nat × Nat × Nat)) (ws : List Cond) (rm : Room) (mc ms n : Nat) : Prop :=
  (rm.cells = mc ∧ rm.slots = ms ∧ rm.frames + 1 ≤ R.frames ∧ 8 + (maxL + 11) + rm.locals ≤ R.locals ∧ (∀ w ∈ ws, ∀ (a' : Array Value) (U : State), s.WarmedH U.vm → w.before a' U = true) ∧ Cond.codeWith y bytes maxL ret hh ∈ ws) ∧
  (Cond.codeWith y bytes maxL ret hh).before args s = true ∧ (Cond.initialized y.cls).before args s = true ∧ (y.cls ≠ "java/lang/invoke/MethodHandle" ∧ y.cls ≠ "java/lang/invoke/VarHandle") ∧
  (∀ sig, parseMethodDescriptor y.desc = some sig → n = sig.parameters.length) ∧ (Cond.methodLink own index y).before args s = true ∧ (Cond.instanceMethod y).before args s = true ∧ (Cond.selects C y y).before args s = true
theorem vx_cwVW {own C : String} {index maxL mc ms : Nat} {y : MethodName} {bytes : ByteArray} {ret : Option FieldType} {hh : List (Nat × Nat × Nat × Nat)} {Ts ws ws' : List Cond} {rm : Room} (n : Nat) (ht : ∀ w ∈ Ts, w.before args s = true) (hT : GoodIn Ts (wsV own index C y ws)) (hw : ws = Cond.codeWith y bytes maxL ret hh :: ws') (hrc : rm.cells = mc) (hrs : rm.slots = ms)
    (hd : y.cls = C ∧ y.cls ≠ "java/lang/invoke/MethodHandle" ∧ y.cls ≠ "java/lang/invoke/VarHandle" ∧ (parseMethodDescriptor y.desc).map (fun d => d.parameters.length) = some n) (hR : rm.frames + 1 ≤ R.frames ∧ 8 + (maxL + 11) + rm.locals ≤ R.locals) :
    vx_CVW R s args own C index y bytes maxL ret hh ws rm mc ms n := by
  obtain ⟨hC, hd⟩ := hd
  subst hC
  have ok : ∀ w ∈ wsV own index y.cls y ws, w.before args s = true := fun w h => ht w (hT w h).1
  have hG : GoodIn Ts ws := fun w h => hT w (by unfold wsV; exact List.mem_append_right _ h)
  have hc : Cond.codeWith y bytes maxL ret hh ∈ ws := by rw [hw]; exact List.mem_cons_self
  refine ⟨⟨hrc, hrs, hR.1, hR.2, pay_in ht hG, hc⟩, ht _ (hG _ hc).1, ok _ (by simp [wsV]), ⟨hd.1, hd.2.1⟩, fun sig h => ?_, ok _ (by simp [wsV]), ok _ (by simp [wsV]), ok _ (by simp [wsV])⟩
  have h2 := hd.2.2
  rw [h] at h2
  exact (Option.some.inj h2).symm
theorem vx_runVW {y : MethodName} {bytes cc : ByteArray} {maxL nL mc ms n index : Nat} {ret : Option FieldType} {hh : List (Nat × Nat × Nat × Nat)} {ws : List Cond} {rm : Room} {Pc : Array Value → State → Prop} {Qc : Array Value → State → Outcome → State → Prop} {free : Addr → Prop} {Ts : List Cond} {own C : String} {b : Addr} {As rest : List Value} {g : JFrame}
    (S : CallFix p m c cc nL s args Ts own) (hM : Met l y ws rm Pc Qc mc ms free) (cw : vx_CVW R s args own C index y bytes maxL ret hh ws rm mc ms n) (hp : PreV s H C b Pc As)
    (hg : g.method = m) (hn : As.length = n) (hsize : g.locals.size = nL) (hstack : g.stack = As.reverse ++ .ref b :: rest) (hW : 2 * g.monitorRoom + (rest.map fun v => v.category).sum ≤ 8) (hdg : decode cc g.pc = .ok (.invokevirtual index, 3)) (hf : cells + mc ≤ R.cells ∧ slots + ms ≤ R.slots) :
    va_Run p l e R s m args below meth c H locs cells slots mc ms g rest (Qc (Value.ref b :: As).toArray) free := by
  obtain ⟨⟨hrc, hrs, hfr, hlo, hws, hcw⟩, hcode, hini, hy, hlen, hl, hin, hse⟩ := cw
  have hK : Back l R p e below s args y 3 8 (PreOf R mc ms Pc) (PostOf Qc mc ms free) := va_backW (hh := hh) (bytes := bytes) (maxL := maxL) (ret := ret) hM hp.1 hrc hrs hfr hlo hws hcw (fun a' U hW => word_at hW (Or.inl (by first | rfl | simp [Cond.onTables, Cond.keeps, Cond.steady])) hini)
  obtain ⟨hx, hb, hml, ho, -⟩ := S
  obtain ⟨-, ⟨cellB, hcB, hoB, hclB⟩, hPc⟩ := hp
  intro T hT X
  obtain ⟨v, vm₁, ⟨U', l2, c2, s2⟩, hW₁, X', ⟨g', mk, t, L, e1, e2, hq, h1, hL, h2, h3⟩, st⟩ := vx_callVW X hx (C := C) (hh := hh) (bytes := bytes) (maxL := maxL) (ret := ret) ho hl hin hse hcode hy hK (by rw [hT]; exact hcB) hoB hclB hg (hsize.trans hml.symm) (argsL := As) (rest := rest) (fun sig h => hn.trans (hlen sig h)) hstack hW (by rw [hb]; exact hdg)
    (fun vm₁ hW₁ => ⟨hf.1, hf.2, hPc (T.setVm vm₁) hT hW₁⟩)
  dsimp only [Pt.U, Pt.locs, Pt.cells, Pt.slots] at X' e1 e2 h1 h2 h3 st
  subst h1; subst h2; subst h3
  exact ⟨v, (T.setVm vm₁).calling g' mk (Value.ref b :: As).toArray, t, U', L, hT, X', hL, e1, e2, hq, st⟩
section
variable {y : MethodName} {bytes cc : ByteArray} {maxL nL mc ms n index : Nat} {ret : Option FieldType} {ws : List Cond} {rm : Room} {Pc : Array Value → State → Prop} {Qc : Array Value → State → Outcome → State → Prop} {XC : String → State → State → Prop} {free : Addr → Prop} {Ts : List Cond} {own C : String} {b : Addr} {As rest : List Value} {g : JFrame}
theorem vx_runVX {hh : List (Nat × Nat × Nat × Nat)} (S : CallFix p m c cc nL s args Ts own) (hM : vx_Met l y ws rm Pc Qc XC mc ms free) (cw : vx_CVW R s args own C index y bytes maxL ret hh ws rm mc ms n) (hp : PreV s H C b Pc As)
    (hg : g.method = m) (hn : As.length = n) (hsize : g.locals.size = nL) (hstack : g.stack = As.reverse ++ .ref b :: rest) (hW : 2 * g.monitorRoom + (rest.map fun v => v.category).sum ≤ 8) (hdg : decode cc g.pc = .ok (.invokevirtual index, 3)) (hf : cells + mc ≤ R.cells ∧ slots + ms ≤ R.slots) :
    vx_Run p l e R s m args below meth c H locs cells slots mc ms g rest (Qc (Value.ref b :: As).toArray) XC free := by
  obtain ⟨⟨hrc, hrs, hfr, hlo, hws, hcw⟩, hcode, hini, hy, hlen, hl, hin, hse⟩ := cw
  have hK : vx_Back l R p e below s args y 3 8 (PreOf R mc ms Pc) (PostOf Qc mc ms free) (vx_Post XC mc ms free) := vx_backW (hh := hh) (bytes := bytes) (maxL := maxL) (ret := ret) hM hp.1 hrc hrs hfr hlo hws hcw (fun a' U hW => word_at hW (Or.inl (by first | rfl | simp [Cond.onTables, Cond.keeps, Cond.steady])) hini)
  obtain ⟨hx, hb, hml, ho, -⟩ := S
  obtain ⟨-, ⟨cellB, hcB, hoB, hclB⟩, hPc⟩ := hp
  intro T hT X
  rcases vx_callVX X hx (C := C) (hh := hh) (bytes := bytes) (maxL := maxL) (ret := ret) ho hl hin hse hcode hy hK (by rw [hT]; exact hcB) hoB hclB hg (hsize.trans hml.symm) (argsL := As) (rest := rest) (fun sig h => hn.trans (hlen sig h)) hstack hW (by rw [hb]; exact hdg)
    (fun vm₁ hW₁ => ⟨hf.1, hf.2, hPc (T.setVm vm₁) hT hW₁⟩) with ⟨v, vm₁, ⟨U', l2, c2, s2⟩, hW₁, X', ⟨g', mk, t, L, e1, e2, hq, h1, hL, h2, h3⟩, st⟩ | ⟨q, vm₁, ⟨U', l2, c2, s2⟩, hW₁, X', ⟨g', mk, t, L, E, ce, e1, e2, hq, hce, hcv, hcl, h1, hL, h2, h3⟩, st⟩
  · dsimp only [Pt.U, Pt.locs, Pt.cells, Pt.slots] at X' e1 e2 h1 h2 h3 st
    subst h1; subst h2; subst h3
    exact Or.inl ⟨v, (T.setVm vm₁).calling g' mk (Value.ref b :: As).toArray, t, U', L, hT, X', hL, e1, e2, hq, st⟩
  · dsimp only [Pt.U, Pt.locs, Pt.cells, Pt.slots] at X' e1 e2 h1 h2 h3 st hcl
    subst h1; subst h2; subst h3
    exact Or.inr ⟨q, (T.setVm vm₁).calling g' mk (Value.ref b :: As).toArray, t, U', L, E, ce, hT, X', hL, e1, e2, hq, hce, hcv, vx_cls hW₁ hcl, st⟩
theorem vx_runSX {hh : List (Nat × Nat × Nat × Nat)} (S : CallFix p m c cc nL s args Ts own) (hM : vx_Met l y ws rm Pc Qc XC mc ms free) (cw : vx_CSW R s args own index y bytes maxL ret hh ws rm mc ms n) (hp : PreS s H Pc As)
    (hg : g.method = m) (hn : As.length = n) (hsize : g.locals.size = nL) (hstack : g.stack = As.reverse ++ rest) (hW : 2 * g.monitorRoom + (rest.map fun v => v.category).sum ≤ 8) (hdg : decode cc g.pc = .ok (.invokestatic index, 3)) (hf : cells + mc ≤ R.cells ∧ slots + ms ≤ R.slots) :
    vx_Run p l e R s m args below meth c H locs cells slots mc ms g rest (Qc As.toArray) XC free := by
  obtain ⟨⟨hrc, hrs, hfr, hlo, hws, hcw⟩, hcode, hini, hy, hlen, hl, hstt⟩ := cw
  have hK : vx_Back l R p e below s args y 3 8 (PreOf R mc ms Pc) (PostOf Qc mc ms free) (vx_Post XC mc ms free) := vx_backW (hh := hh) (bytes := bytes) (maxL := maxL) (ret := ret) hM hp.1 hrc hrs hfr hlo hws hcw (fun a' U hW => word_at hW (Or.inl (by first | rfl | simp [Cond.onTables, Cond.keeps, Cond.steady])) hini)
  obtain ⟨hx, hb, hml, ho, -⟩ := S
  intro T hT X
  rcases vx_callSX X hx (hh := hh) (bytes := bytes) (maxL := maxL) (ret := ret) ho hl hstt hini hcode hy hK hg (hsize.trans hml.symm) (argsL := As) (rest := rest) (fun sig h => hn.trans (hlen sig h)) hstack hW (by rw [hb]; exact hdg)
    (fun vm₁ hW₁ => ⟨hf.1, hf.2, hp.2 (T.setVm vm₁) hT hW₁⟩) with ⟨v, vm₁, ⟨U', l2, c2, s2⟩, hW₁, X', ⟨g', mk, t, L, e1, e2, hq, h1, hL, h2, h3⟩, st⟩ | ⟨q, vm₁, ⟨U', l2, c2, s2⟩, hW₁, X', ⟨g', mk, t, L, E, ce, e1, e2, hq, hce, hcv, hcl, h1, hL, h2, h3⟩, st⟩
  · dsimp only [Pt.U, Pt.locs, Pt.cells, Pt.slots] at X' e1 e2 h1 h2 h3 st
    subst h1; subst h2; subst h3
    exact Or.inl ⟨v, (T.setVm vm₁).calling g' mk As.toArray, t, U', L, hT, X', hL, e1, e2, hq, st⟩
  · dsimp only [Pt.U, Pt.locs, Pt.cells, Pt.slots] at X' e1 e2 h1 h2 h3 st hcl
    subst h1; subst h2; subst h3
    exact Or.inr ⟨q, (T.setVm vm₁).calling g' mk As.toArray, t, U', L, E, ce, hT, X', hL, e1, e2, hq, hce, hcv, vx_cls hW₁ hcl, st⟩
end
end VXH
theorem vx_ofWH {l : Launch} {y : MethodName} {ws ws' : List Cond} {rm : Room} {Pc : Array Value → State → Prop} {Qc : Array Value → State → Outcome → State → Prop} {XC : String → State → State → Prop} {mc ms : Nat} {free : Addr → Prop} {cc : ByteArray} {maxL : Nat} {ret : Option FieldType} {hh : List (Nat × Nat × Nat × Nat)}
    (hy : plainName y.cls = true) (hw : ws = Cond.codeWith y cc maxL ret hh :: ws')
    (body : ∀ p e s m args below meth c s₁, BodyLoose p l y (headSpec ws rm) cc maxL ret e s m args below meth c s₁ → c.maxLocals = maxL → Pc args s →
      W p l e (headSpec ws rm).room s m args below meth c s.heap [] 0 0 (vx_MQ below Qc XC args s mc ms free) (entryFrame m args maxL)) : vx_Met l y ws rm Pc Qc XC mc ms free := by
  refine MetFree.of_bodyS (code := cc) (maxLocals := maxL) (ret := ret) hy ?_ ?_
  · intro args s m h hn
    obtain ⟨m9, meth, c, hn9, h1, h2, h3, h4, -, h5, h6, -⟩ := Cond.codeWith_spec (atoms_spec (ws := ws) h _ (by rw [hw]; exact List.mem_cons_self))
    cases hn.symm.trans hn9
    exact ⟨meth, c, h1, h2, h3, h4, h5, h6⟩
  · intro p e s m args below meth c s₁ B hml hP _
    have hh0 : s₁.heap = s.heap := by rw [B.state]; rfl
    obtain ⟨t, a1, o, b1, b2, b3⟩ := body p e s m args below meth c s₁ B hml hP s₁ hh0 (Stand.of_body B)
    exact ⟨t, o, a1, b1, b2, b3⟩
/-! ===== END ===== -/
end
section
/-! ===== BEGIN printed: names, fields, word lists, decode rows ===== -/
def RX0 : String := "SaidInWinter$Black"
def TX0 : u_T := fun k => match k with
  | _ => ("", "", "", false)
def tyX0 : Nat → FieldType := fun k => match k with
  | _ => .int
abbrev wsX00 : List Cond := u_ws RX0 TX0 0
theorem nmX0 : ∀ a, a < 0 → ∀ b, b < 0 → a ≠ b → (TX0 a).2.1 ≠ (TX0 b).2.1 := by decide +kernel
theorem tyX0_ok : ∀ k, k < 0 → parseFieldDescriptor (TX0 k).2.2.1 = some (tyX0 k) := by decide +kernel
abbrev cX0_init : ByteArray := prog_2_method_1_code
def yX0_init : MethodName := ⟨RX0, "<init>", "()V"⟩
abbrev cX0_fingersIn : ByteArray := prog_2_method_2_code
def yX0_fingersIn : MethodName := ⟨RX0, "fingersIn", "(II)I"⟩
abbrev cX0_light : ByteArray := prog_2_method_3_code
def yX0_light : MethodName := ⟨RX0, "light", "(I)I"⟩
abbrev cX0_tollWith : ByteArray := prog_2_method_4_code
def yX0_tollWith : MethodName := ⟨RX0, "tollWith", "(I)I"⟩
def RX1 : String := "SaidInWinter$Bubbly"
def TX1 : u_T := fun k => match k with
  | _ => ("", "", "", false)
def tyX1 : Nat → FieldType := fun k => match k with
  | _ => .int
abbrev wsX10 : List Cond := u_ws RX1 TX1 0
theorem nmX1 : ∀ a, a < 0 → ∀ b, b < 0 → a ≠ b → (TX1 a).2.1 ≠ (TX1 b).2.1 := by decide +kernel
theorem tyX1_ok : ∀ k, k < 0 → parseFieldDescriptor (TX1 k).2.2.1 = some (tyX1 k) := by decide +kernel
abbrev cX1_init : ByteArray := prog_3_method_1_code
def yX1_init : MethodName := ⟨RX1, "<init>", "()V"⟩
abbrev cX1_melts : ByteArray := prog_3_method_2_code
def yX1_melts : MethodName := ⟨RX1, "melts", "(I)I"⟩
abbrev cX1_light : ByteArray := prog_3_method_3_code
def yX1_light : MethodName := ⟨RX1, "light", "(I)I"⟩
abbrev cX1_tollWith : ByteArray := prog_3_method_4_code
def yX1_tollWith : MethodName := ⟨RX1, "tollWith", "(I)I"⟩
abbrev cX1_fail : ByteArray := prog_3_method_5_code
def yX1_fail : MethodName := ⟨RX1, "fail", "()V"⟩
def RX2 : String := "SaidInWinter$Cell"
def TX2 : u_T := fun k => match k with
  | 0 => ("SaidInWinter$Cell", "kind", "[I", true)
  | 1 => ("SaidInWinter$Cell", "oath", "[I", true)
  | 2 => ("SaidInWinter$Cell", "frozenIn", "[I", true)
  | 3 => ("SaidInWinter$Cell", "thick", "[I", true)
  | 4 => ("SaidInWinter$Cell", "melts", "[I", true)
  | 5 => ("SaidInWinter$Cell", "light", "[I", true)
  | _ => ("SaidInWinter$Cell", "layers", "I", false)
def tyX2 : Nat → FieldType := fun k => match k with
  | 0 => .array .int
  | 1 => .array .int
  | 2 => .array .int
  | 3 => .array .int
  | 4 => .array .int
  | 5 => .array .int
  | _ => .int
abbrev wsX20 : List Cond := u_ws RX2 TX2 7
theorem nmX2 : ∀ a, a < 7 → ∀ b, b < 7 → a ≠ b → (TX2 a).2.1 ≠ (TX2 b).2.1 := by decide +kernel
theorem tyX2_ok : ∀ k, k < 7 → parseFieldDescriptor (TX2 k).2.2.1 = some (tyX2 k) := by decide +kernel
abbrev cX2_init : ByteArray := prog_4_method_1_code
def yX2_init : MethodName := ⟨RX2, "<init>", "()V"⟩
abbrev cX2_has : ByteArray := prog_4_method_2_code
def yX2_has : MethodName := ⟨RX2, "has", "(I)Z"⟩
abbrev cX2_oathAt : ByteArray := prog_4_method_3_code
def yX2_oathAt : MethodName := ⟨RX2, "oathAt", "(I)I"⟩
abbrev cX2_winterAt : ByteArray := prog_4_method_4_code
def yX2_winterAt : MethodName := ⟨RX2, "winterAt", "(I)I"⟩
abbrev cX2_thickAt : ByteArray := prog_4_method_5_code
def yX2_thickAt : MethodName := ⟨RX2, "thickAt", "(I)I"⟩
abbrev cX2_meltsAt : ByteArray := prog_4_method_6_code
def yX2_meltsAt : MethodName := ⟨RX2, "meltsAt", "(I)I"⟩
abbrev cX2_lightAt : ByteArray := prog_4_method_7_code
def yX2_lightAt : MethodName := ⟨RX2, "lightAt", "(I)I"⟩
abbrev cX2_depthAt : ByteArray := prog_4_method_8_code
def yX2_depthAt : MethodName := ⟨RX2, "depthAt", "(I)I"⟩
abbrev cX2_ice : ByteArray := prog_4_method_9_code
def yX2_ice : MethodName := ⟨RX2, "ice", "()I"⟩
abbrev cX2_canRead : ByteArray := prog_4_method_10_code
def yX2_canRead : MethodName := ⟨RX2, "canRead", "(I)Z"⟩
abbrev cX2_tellOf : ByteArray := prog_4_method_11_code
def yX2_tellOf : MethodName := ⟨RX2, "tellOf", "(II)I"⟩
abbrev cX2_freezeOn : ByteArray := prog_4_method_12_code
def yX2_freezeOn : MethodName := ⟨RX2, "freezeOn", "(LSaidInWinter$Layer;IIII)I"⟩
abbrev cX2_warmDay : ByteArray := prog_4_method_13_code
def yX2_warmDay : MethodName := ⟨RX2, "warmDay", "()I"⟩
abbrev cX2_cutOff : ByteArray := prog_4_method_14_code
def yX2_cutOff : MethodName := ⟨RX2, "cutOff", "(I)I"⟩
abbrev cX2_takeLayers : ByteArray := prog_4_method_15_code
def yX2_takeLayers : MethodName := ⟨RX2, "takeLayers", "(LSaidInWinter$Cell;)V"⟩
abbrev cX2_topmostRead : ByteArray := prog_4_method_16_code
def yX2_topmostRead : MethodName := ⟨RX2, "topmostRead", "()I"⟩
abbrev cX2_oathsSeen : ByteArray := prog_4_method_17_code
def yX2_oathsSeen : MethodName := ⟨RX2, "oathsSeen", "(I)I"⟩
abbrev cX2_daysOf : ByteArray := prog_4_method_18_code
def yX2_daysOf : MethodName := ⟨RX2, "daysOf", "(I)I"⟩
abbrev cX2_keepsOath : ByteArray := prog_4_method_19_code
def yX2_keepsOath : MethodName := ⟨RX2, "keepsOath", "(II)Z"⟩
abbrev cX2_layerBehind : ByteArray := prog_4_method_20_code
def yX2_layerBehind : MethodName := ⟨RX2, "layerBehind", "(I)I"⟩
abbrev cX2_lowestThickOf : ByteArray := prog_4_method_21_code
def yX2_lowestThickOf : MethodName := ⟨RX2, "lowestThickOf", "(I)I"⟩
abbrev cX2_unorderedPairs : ByteArray := prog_4_method_22_code
def yX2_unorderedPairs : MethodName := ⟨RX2, "unorderedPairs", "()I"⟩
abbrev cX2_readableLayers : ByteArray := prog_4_method_23_code
def yX2_readableLayers : MethodName := ⟨RX2, "readableLayers", "()I"⟩
abbrev cX2_oaths : ByteArray := prog_4_method_24_code
def yX2_oaths : MethodName := ⟨RX2, "oaths", "()I"⟩
abbrev cX2_tellAhead : ByteArray := prog_4_method_25_code
def yX2_tellAhead : MethodName := ⟨RX2, "tellAhead", "([I)V"⟩
def RX3 : String := "SaidInWinter$Clear"
def TX3 : u_T := fun k => match k with
  | _ => ("", "", "", false)
def tyX3 : Nat → FieldType := fun k => match k with
  | _ => .int
abbrev wsX30 : List Cond := u_ws RX3 TX3 0
theorem nmX3 : ∀ a, a < 0 → ∀ b, b < 0 → a ≠ b → (TX3 a).2.1 ≠ (TX3 b).2.1 := by decide +kernel
theorem tyX3_ok : ∀ k, k < 0 → parseFieldDescriptor (TX3 k).2.2.1 = some (tyX3 k) := by decide +kernel
abbrev cX3_init : ByteArray := prog_5_method_1_code
def yX3_init : MethodName := ⟨RX3, "<init>", "()V"⟩
abbrev cX3_fingersIn : ByteArray := prog_5_method_2_code
def yX3_fingersIn : MethodName := ⟨RX3, "fingersIn", "(II)I"⟩
abbrev cX3_melts : ByteArray := prog_5_method_3_code
def yX3_melts : MethodName := ⟨RX3, "melts", "(I)I"⟩
abbrev cX3_light : ByteArray := prog_5_method_4_code
def yX3_light : MethodName := ⟨RX3, "light", "(I)I"⟩
abbrev cX3_tollWith : ByteArray := prog_5_method_5_code
def yX3_tollWith : MethodName := ⟨RX3, "tollWith", "(I)I"⟩
def RX4 : String := "SaidInWinter$Cracked"
def TX4 : u_T := fun k => match k with
  | _ => ("", "", "", false)
def tyX4 : Nat → FieldType := fun k => match k with
  | _ => .int
abbrev wsX40 : List Cond := u_ws RX4 TX4 0
theorem nmX4 : ∀ a, a < 0 → ∀ b, b < 0 → a ≠ b → (TX4 a).2.1 ≠ (TX4 b).2.1 := by decide +kernel
theorem tyX4_ok : ∀ k, k < 0 → parseFieldDescriptor (TX4 k).2.2.1 = some (tyX4 k) := by decide +kernel
abbrev cX4_init : ByteArray := prog_6_method_1_code
def yX4_init : MethodName := ⟨RX4, "<init>", "()V"⟩
abbrev cX4_melts : ByteArray := prog_6_method_2_code
def yX4_melts : MethodName := ⟨RX4, "melts", "(I)I"⟩
abbrev cX4_light : ByteArray := prog_6_method_3_code
def yX4_light : MethodName := ⟨RX4, "light", "(I)I"⟩
abbrev cX4_tollWith : ByteArray := prog_6_method_4_code
def yX4_tollWith : MethodName := ⟨RX4, "tollWith", "(I)I"⟩
def RX5 : String := "SaidInWinter$Forged"
def TX5 : u_T := fun k => match k with
  | _ => ("", "", "", false)
def tyX5 : Nat → FieldType := fun k => match k with
  | _ => .int
abbrev wsX50 : List Cond := u_ws RX5 TX5 0
theorem nmX5 : ∀ a, a < 0 → ∀ b, b < 0 → a ≠ b → (TX5 a).2.1 ≠ (TX5 b).2.1 := by decide +kernel
theorem tyX5_ok : ∀ k, k < 0 → parseFieldDescriptor (TX5 k).2.2.1 = some (tyX5 k) := by decide +kernel
abbrev cX5_init : ByteArray := prog_7_method_1_code
def yX5_init : MethodName := ⟨RX5, "<init>", "()V"⟩
abbrev cX5_fingersIn : ByteArray := prog_7_method_2_code
def yX5_fingersIn : MethodName := ⟨RX5, "fingersIn", "(II)I"⟩
abbrev cX5_melts : ByteArray := prog_7_method_3_code
def yX5_melts : MethodName := ⟨RX5, "melts", "(I)I"⟩
abbrev cX5_tollWith : ByteArray := prog_7_method_4_code
def yX5_tollWith : MethodName := ⟨RX5, "tollWith", "(I)I"⟩
abbrev cX5_fail : ByteArray := prog_7_method_5_code
def yX5_fail : MethodName := ⟨RX5, "fail", "()V"⟩
def RX6 : String := "SaidInWinter$Lake"
def TX6 : u_T := fun k => match k with
  | 0 => ("SaidInWinter$Lake", "kinds", "[LSaidInWinter$Layer;", true)
  | 1 => ("SaidInWinter$Lake", "cells", "[LSaidInWinter$Cell;", true)
  | _ => ("SaidInWinter$Lake", "winter", "I", false)
def tyX6 : Nat → FieldType := fun k => match k with
  | 0 => .array (.object "SaidInWinter$Layer")
  | 1 => .array (.object "SaidInWinter$Cell")
  | _ => .int
abbrev wsX60 : List Cond := u_ws RX6 TX6 3
theorem nmX6 : ∀ a, a < 3 → ∀ b, b < 3 → a ≠ b → (TX6 a).2.1 ≠ (TX6 b).2.1 := by decide +kernel
theorem tyX6_ok : ∀ k, k < 3 → parseFieldDescriptor (TX6 k).2.2.1 = some (tyX6 k) := by decide +kernel
abbrev cX6_init : ByteArray := prog_8_method_1_code
def yX6_init : MethodName := ⟨RX6, "<init>", "([LSaidInWinter$Layer;)V"⟩
abbrev cX6_cellAt : ByteArray := prog_8_method_2_code
def yX6_cellAt : MethodName := ⟨RX6, "cellAt", "(I)LSaidInWinter$Cell;"⟩
abbrev cX6_takeAll : ByteArray := prog_8_method_3_code
def yX6_takeAll : MethodName := ⟨RX6, "takeAll", "(LSaidInWinter$Lake;)V"⟩
abbrev cX6_freezeIn : ByteArray := prog_8_method_4_code
def yX6_freezeIn : MethodName := ⟨RX6, "freezeIn", "(IIII)I"⟩
abbrev cX6_thawFor : ByteArray := prog_8_method_5_code
def yX6_thawFor : MethodName := ⟨RX6, "thawFor", "(I)I"⟩
abbrev cX6_cutIn : ByteArray := prog_8_method_6_code
def yX6_cutIn : MethodName := ⟨RX6, "cutIn", "(II)I"⟩
abbrev cX6_driftOn : ByteArray := prog_8_method_7_code
def yX6_driftOn : MethodName := ⟨RX6, "driftOn", "()I"⟩
abbrev cX6_nextWinter : ByteArray := prog_8_method_8_code
def yX6_nextWinter : MethodName := ⟨RX6, "nextWinter", "()I"⟩
abbrev cX6_allLayers : ByteArray := prog_8_method_9_code
def yX6_allLayers : MethodName := ⟨RX6, "allLayers", "()I"⟩
abbrev cX6_allIce : ByteArray := prog_8_method_10_code
def yX6_allIce : MethodName := ⟨RX6, "allIce", "()I"⟩
abbrev cX6_allReadable : ByteArray := prog_8_method_11_code
def yX6_allReadable : MethodName := ⟨RX6, "allReadable", "()I"⟩
abbrev cX6_allOaths : ByteArray := prog_8_method_12_code
def yX6_allOaths : MethodName := ⟨RX6, "allOaths", "()I"⟩
abbrev cX6_allUnordered : ByteArray := prog_8_method_13_code
def yX6_allUnordered : MethodName := ⟨RX6, "allUnordered", "()I"⟩
abbrev cX6_latestOf : ByteArray := prog_8_method_14_code
def yX6_latestOf : MethodName := ⟨RX6, "latestOf", "(I)I"⟩
abbrev cX6_tellSeen : ByteArray := prog_8_method_15_code
def yX6_tellSeen : MethodName := ⟨RX6, "tellSeen", "(I[I)V"⟩
abbrev cX6_cellsWith : ByteArray := prog_8_method_16_code
def yX6_cellsWith : MethodName := ⟨RX6, "cellsWith", "(II)I"⟩
abbrev cX6_isThin : ByteArray := prog_8_method_17_code
def yX6_isThin : MethodName := ⟨RX6, "isThin", "(II)Z"⟩
abbrev cX6_thinLayers : ByteArray := prog_8_method_18_code
def yX6_thinLayers : MethodName := ⟨RX6, "thinLayers", "()I"⟩
abbrev cX6_firstThin : ByteArray := prog_8_method_19_code
def yX6_firstThin : MethodName := ⟨RX6, "firstThin", "()I"⟩
abbrev cX6_tellAllAhead : ByteArray := prog_8_method_20_code
def yX6_tellAllAhead : MethodName := ⟨RX6, "tellAllAhead", "([I)V"⟩
def RX7 : String := "SaidInWinter$Layer"
def TX7 : u_T := fun k => match k with
  | _ => ("", "", "", false)
def tyX7 : Nat → FieldType := fun k => match k with
  | _ => .int
abbrev wsX70 : List Cond := u_ws RX7 TX7 0
theorem nmX7 : ∀ a, a < 0 → ∀ b, b < 0 → a ≠ b → (TX7 a).2.1 ≠ (TX7 b).2.1 := by decide +kernel
theorem tyX7_ok : ∀ k, k < 0 → parseFieldDescriptor (TX7 k).2.2.1 = some (tyX7 k) := by decide +kernel
abbrev cX7_init : ByteArray := prog_9_method_1_code
def yX7_init : MethodName := ⟨RX7, "<init>", "()V"⟩
abbrev cX7_fingersIn : ByteArray := prog_9_method_2_code
def yX7_fingersIn : MethodName := ⟨RX7, "fingersIn", "(II)I"⟩
abbrev cX7_melts : ByteArray := prog_9_method_3_code
def yX7_melts : MethodName := ⟨RX7, "melts", "(I)I"⟩
abbrev cX7_light : ByteArray := prog_9_method_4_code
def yX7_light : MethodName := ⟨RX7, "light", "(I)I"⟩
abbrev cX7_tollWith : ByteArray := prog_9_method_5_code
def yX7_tollWith : MethodName := ⟨RX7, "tollWith", "(I)I"⟩
abbrev cX7_fail : ByteArray := prog_9_method_6_code
def yX7_fail : MethodName := ⟨RX7, "fail", "()V"⟩
def RX8 : String := "SaidInWinter$Salt"
def TX8 : u_T := fun k => match k with
  | _ => ("", "", "", false)
def tyX8 : Nat → FieldType := fun k => match k with
  | _ => .int
abbrev wsX80 : List Cond := u_ws RX8 TX8 0
theorem nmX8 : ∀ a, a < 0 → ∀ b, b < 0 → a ≠ b → (TX8 a).2.1 ≠ (TX8 b).2.1 := by decide +kernel
theorem tyX8_ok : ∀ k, k < 0 → parseFieldDescriptor (TX8 k).2.2.1 = some (tyX8 k) := by decide +kernel
abbrev cX8_init : ByteArray := prog_10_method_1_code
def yX8_init : MethodName := ⟨RX8, "<init>", "()V"⟩
abbrev cX8_fingersIn : ByteArray := prog_10_method_2_code
def yX8_fingersIn : MethodName := ⟨RX8, "fingersIn", "(II)I"⟩
abbrev cX8_melts : ByteArray := prog_10_method_3_code
def yX8_melts : MethodName := ⟨RX8, "melts", "(I)I"⟩
abbrev cX8_tollWith : ByteArray := prog_10_method_4_code
def yX8_tollWith : MethodName := ⟨RX8, "tollWith", "(I)I"⟩
abbrev cX8_fail : ByteArray := prog_10_method_5_code
def yX8_fail : MethodName := ⟨RX8, "fail", "()V"⟩
def RX9 : String := "SaidInWinter$Shelf"
def TX9 : u_T := fun k => match k with
  | 0 => ("SaidInWinter$Shelf", "elements", "[I", true)
  | 1 => ("SaidInWinter$Shelf", "held", "I", false)
  | 2 => ("SaidInWinter$Shelf", "kind", "I", false)
  | 3 => ("SaidInWinter$Shelf", "oath", "I", false)
  | 4 => ("SaidInWinter$Shelf", "sort", "I", false)
  | _ => ("SaidInWinter$Shelf", "size", "I", false)
def tyX9 : Nat → FieldType := fun k => match k with
  | 0 => .array .int
  | 1 => .int
  | 2 => .int
  | 3 => .int
  | 4 => .int
  | _ => .int
abbrev wsX90 : List Cond := u_ws RX9 TX9 6
theorem nmX9 : ∀ a, a < 6 → ∀ b, b < 6 → a ≠ b → (TX9 a).2.1 ≠ (TX9 b).2.1 := by decide +kernel
theorem tyX9_ok : ∀ k, k < 6 → parseFieldDescriptor (TX9 k).2.2.1 = some (tyX9 k) := by decide +kernel
abbrev cX9_init : ByteArray := prog_11_method_1_code
def yX9_init : MethodName := ⟨RX9, "<init>", "()V"⟩
abbrev cX9_takeLayer : ByteArray := prog_11_method_2_code
def yX9_takeLayer : MethodName := ⟨RX9, "takeLayer", "(II)V"⟩
abbrev cX9_takeRow : ByteArray := prog_11_method_3_code
def yX9_takeRow : MethodName := ⟨RX9, "takeRow", "(II)V"⟩
abbrev cX9_lacks : ByteArray := prog_11_method_4_code
def yX9_lacks : MethodName := ⟨RX9, "lacks", "(I)I"⟩
abbrev cX9_hasPlace : ByteArray := prog_11_method_5_code
def yX9_hasPlace : MethodName := ⟨RX9, "hasPlace", "(I)Z"⟩
abbrev cX9_hasStretch : ByteArray := prog_11_method_6_code
def yX9_hasStretch : MethodName := ⟨RX9, "hasStretch", "(II)Z"⟩
abbrev cX9_valueAt : ByteArray := prog_11_method_7_code
def yX9_valueAt : MethodName := ⟨RX9, "valueAt", "(I)I"⟩
abbrev cX9_digitAt : ByteArray := prog_11_method_8_code
def yX9_digitAt : MethodName := ⟨RX9, "digitAt", "(I)I"⟩
abbrev cX9_lowestBits : ByteArray := prog_11_method_9_code
def yX9_lowestBits : MethodName := ⟨RX9, "lowestBits", "(I)I"⟩
abbrev cX9_leastNumber : ByteArray := prog_11_method_10_code
def yX9_leastNumber : MethodName := ⟨RX9, "leastNumber", "()I"⟩
def RX10 : String := "SaidInWinter$Snow"
def TX10 : u_T := fun k => match k with
  | _ => ("", "", "", false)
def tyX10 : Nat → FieldType := fun k => match k with
  | _ => .int
abbrev wsX100 : List Cond := u_ws RX10 TX10 0
theorem nmX10 : ∀ a, a < 0 → ∀ b, b < 0 → a ≠ b → (TX10 a).2.1 ≠ (TX10 b).2.1 := by decide +kernel
theorem tyX10_ok : ∀ k, k < 0 → parseFieldDescriptor (TX10 k).2.2.1 = some (tyX10 k) := by decide +kernel
abbrev cX10_init : ByteArray := prog_12_method_1_code
def yX10_init : MethodName := ⟨RX10, "<init>", "()V"⟩
abbrev cX10_fingersIn : ByteArray := prog_12_method_2_code
def yX10_fingersIn : MethodName := ⟨RX10, "fingersIn", "(II)I"⟩
abbrev cX10_melts : ByteArray := prog_12_method_3_code
def yX10_melts : MethodName := ⟨RX10, "melts", "(I)I"⟩
abbrev cX10_light : ByteArray := prog_12_method_4_code
def yX10_light : MethodName := ⟨RX10, "light", "(I)I"⟩
abbrev cX10_tollWith : ByteArray := prog_12_method_5_code
def yX10_tollWith : MethodName := ⟨RX10, "tollWith", "(I)I"⟩
def RX11 : String := "SaidInWinter"
def TX11 : u_T := fun k => match k with
  | 0 => ("SaidInWinter", "kinds", "[LSaidInWinter$Layer;", true)
  | 1 => ("SaidInWinter", "now", "LSaidInWinter$Lake;", true)
  | 2 => ("SaidInWinter", "imaged", "LSaidInWinter$Lake;", true)
  | 3 => ("SaidInWinter", "mind", "LSaidInWinter$Lake;", true)
  | 4 => ("SaidInWinter", "shelves", "[LSaidInWinter$Shelf;", true)
  | 5 => ("SaidInWinter", "seenIn", "[I", true)
  | 6 => ("SaidInWinter", "ahead", "[I", true)
  | 7 => ("SaidInWinter", "isImaged", "Z", false)
  | _ => ("SaidInWinter", "seed", "I", false)
def tyX11 : Nat → FieldType := fun k => match k with
  | 0 => .array (.object "SaidInWinter$Layer")
  | 1 => .object "SaidInWinter$Lake"
  | 2 => .object "SaidInWinter$Lake"
  | 3 => .object "SaidInWinter$Lake"
  | 4 => .array (.object "SaidInWinter$Shelf")
  | 5 => .array .int
  | 6 => .array .int
  | 7 => .boolean
  | _ => .int
abbrev wsX110 : List Cond := u_ws RX11 TX11 9
theorem nmX11 : ∀ a, a < 9 → ∀ b, b < 9 → a ≠ b → (TX11 a).2.1 ≠ (TX11 b).2.1 := by decide +kernel
theorem tyX11_ok : ∀ k, k < 9 → parseFieldDescriptor (TX11 k).2.2.1 = some (tyX11 k) := by decide +kernel
abbrev cX11_init : ByteArray := prog_1_method_1_code
def yX11_init : MethodName := ⟨RX11, "<init>", "()V"⟩
abbrev cX11_lake : ByteArray := prog_1_method_2_code
def yX11_lake : MethodName := ⟨RX11, "lake", "(I)I"⟩
abbrev cX11_freeze : ByteArray := prog_1_method_3_code
def yX11_freeze : MethodName := ⟨RX11, "freeze", "(III)I"⟩
abbrev cX11_thaw : ByteArray := prog_1_method_4_code
def yX11_thaw : MethodName := ⟨RX11, "thaw", "(I)I"⟩
abbrev cX11_cut : ByteArray := prog_1_method_5_code
def yX11_cut : MethodName := ⟨RX11, "cut", "(II)I"⟩
abbrev cX11_drift : ByteArray := prog_1_method_6_code
def yX11_drift : MethodName := ⟨RX11, "drift", "()I"⟩
abbrev cX11_winter : ByteArray := prog_1_method_7_code
def yX11_winter : MethodName := ⟨RX11, "winter", "()I"⟩
abbrev cX11_layer : ByteArray := prog_1_method_8_code
def yX11_layer : MethodName := ⟨RX11, "layer", "(III)I"⟩
abbrev cX11_cell : ByteArray := prog_1_method_9_code
def yX11_cell : MethodName := ⟨RX11, "cell", "(II)I"⟩
abbrev cX11_holds : ByteArray := prog_1_method_10_code
def yX11_holds : MethodName := ⟨RX11, "holds", "(I)I"⟩
abbrev cX11_latest : ByteArray := prog_1_method_11_code
def yX11_latest : MethodName := ⟨RX11, "latest", "(I)I"⟩
abbrev cX11_seen : ByteArray := prog_1_method_12_code
def yX11_seen : MethodName := ⟨RX11, "seen", "(II)I"⟩
abbrev cX11_holes : ByteArray := prog_1_method_13_code
def yX11_holes : MethodName := ⟨RX11, "holes", "(II)I"⟩
abbrev cX11_lasts : ByteArray := prog_1_method_14_code
def yX11_lasts : MethodName := ⟨RX11, "lasts", "(II)I"⟩
abbrev cX11_frost : ByteArray := prog_1_method_15_code
def yX11_frost : MethodName := ⟨RX11, "frost", "(III)I"⟩
abbrev cX11_where : ByteArray := prog_1_method_16_code
def yX11_where : MethodName := ⟨RX11, "where", "(II)I"⟩
abbrev cX11_thin : ByteArray := prog_1_method_17_code
def yX11_thin : MethodName := ⟨RX11, "thin", "(I)I"⟩
abbrev cX11_spans : ByteArray := prog_1_method_18_code
def yX11_spans : MethodName := ⟨RX11, "spans", "(II)I"⟩
abbrev cX11_disorder : ByteArray := prog_1_method_19_code
def yX11_disorder : MethodName := ⟨RX11, "disorder", "()I"⟩
abbrev cX11_order : ByteArray := prog_1_method_20_code
def yX11_order : MethodName := ⟨RX11, "order", "(I)I"⟩
abbrev cX11_joined : ByteArray := prog_1_method_21_code
def yX11_joined : MethodName := ⟨RX11, "joined", "(II)I"⟩
abbrev cX11_seeded : ByteArray := prog_1_method_22_code
def yX11_seeded : MethodName := ⟨RX11, "seeded", "(II)I"⟩
abbrev cX11_judge : ByteArray := prog_1_method_23_code
def yX11_judge : MethodName := ⟨RX11, "judge", "(I)I"⟩
abbrev cX11_image : ByteArray := prog_1_method_24_code
def yX11_image : MethodName := ⟨RX11, "image", "()I"⟩
abbrev cX11_restore : ByteArray := prog_1_method_25_code
def yX11_restore : MethodName := ⟨RX11, "restore", "()I"⟩
abbrev cX11_count : ByteArray := prog_1_method_26_code
def yX11_count : MethodName := ⟨RX11, "count", "(I)I"⟩
abbrev cX11_keep : ByteArray := prog_1_method_27_code
def yX11_keep : MethodName := ⟨RX11, "keep", "(IIII)I"⟩
abbrev cX11_row : ByteArray := prog_1_method_28_code
def yX11_row : MethodName := ⟨RX11, "row", "(III)I"⟩
abbrev cX11_put : ByteArray := prog_1_method_29_code
def yX11_put : MethodName := ⟨RX11, "put", "(III)I"⟩
abbrev cX11_element : ByteArray := prog_1_method_30_code
def yX11_element : MethodName := ⟨RX11, "element", "(II)J"⟩
abbrev cX11_copy : ByteArray := prog_1_method_31_code
def yX11_copy : MethodName := ⟨RX11, "copy", "(IIIII)I"⟩
abbrev cX11_toll : ByteArray := prog_1_method_32_code
def yX11_toll : MethodName := ⟨RX11, "toll", "(I)I"⟩
abbrev cX11_toss : ByteArray := prog_1_method_33_code
def yX11_toss : MethodName := ⟨RX11, "toss", "(I)I"⟩
abbrev cX11_within : ByteArray := prog_1_method_34_code
def yX11_within : MethodName := ⟨RX11, "within", "(III)Z"⟩
abbrev cX11_isKindAndOath : ByteArray := prog_1_method_35_code
def yX11_isKindAndOath : MethodName := ⟨RX11, "isKindAndOath", "(II)Z"⟩
abbrev cX11_kindOf : ByteArray := prog_1_method_36_code
def yX11_kindOf : MethodName := ⟨RX11, "kindOf", "([LSaidInWinter$Layer;I)LSaidInWinter$Layer;"⟩
abbrev cX11_shelfAt : ByteArray := prog_1_method_37_code
def yX11_shelfAt : MethodName := ⟨RX11, "shelfAt", "(I)LSaidInWinter$Shelf;"⟩
abbrev cX11_firstBadByte : ByteArray := prog_1_method_38_code
def yX11_firstBadByte : MethodName := ⟨RX11, "firstBadByte", "(LSaidInWinter$Shelf;)I"⟩
abbrev cX11_statementLength : ByteArray := prog_1_method_39_code
def yX11_statementLength : MethodName := ⟨RX11, "statementLength", "(I)I"⟩
abbrev cX11_readStatements : ByteArray := prog_1_method_40_code
def yX11_readStatements : MethodName := ⟨RX11, "readStatements", "(LSaidInWinter$Shelf;)I"⟩
abbrev cX11_doStatement : ByteArray := prog_1_method_41_code
def yX11_doStatement : MethodName := ⟨RX11, "doStatement", "(LSaidInWinter$Shelf;I)I"⟩
abbrev cX11_seenInAll : ByteArray := prog_1_method_42_code
def yX11_seenInAll : MethodName := ⟨RX11, "seenInAll", "(I)I"⟩
abbrev cX11_leastNext : ByteArray := prog_1_method_43_code
def yX11_leastNext : MethodName := ⟨RX11, "leastNext", "(II)I"⟩
abbrev cX11_alikeFingers : ByteArray := prog_1_method_44_code
def yX11_alikeFingers : MethodName := ⟨RX11, "alikeFingers", "(LSaidInWinter$Cell;LSaidInWinter$Cell;)I"⟩
abbrev cX11_happen : ByteArray := prog_1_method_45_code
def yX11_happen : MethodName := ⟨RX11, "happen", "(I)V"⟩
abbrev cX11_freezeDrawn : ByteArray := prog_1_method_46_code
def yX11_freezeDrawn : MethodName := ⟨RX11, "freezeDrawn", "()V"⟩
abbrev cX11_drawBelow : ByteArray := prog_1_method_47_code
def yX11_drawBelow : MethodName := ⟨RX11, "drawBelow", "(I)I"⟩
abbrev cX11_firstWrong : ByteArray := prog_1_method_48_code
def yX11_firstWrong : MethodName := ⟨RX11, "firstWrong", "(LSaidInWinter$Shelf;)I"⟩
abbrev cX11_caughtFailure : ByteArray := prog_1_method_49_code
def yX11_caughtFailure : MethodName := ⟨RX11, "caughtFailure", "(LSaidInWinter$Layer;I)I"⟩
def RX12 : String := "SaidInWinterModel"
def TX12 : u_T := fun k => match k with
  | 0 => ("SaidInWinterModel", "winters", "I", false)
  | 1 => ("SaidInWinterModel", "many", "[I", true)
  | 2 => ("SaidInWinterModel", "kinds", "[I", true)
  | 3 => ("SaidInWinterModel", "oaths", "[I", true)
  | 4 => ("SaidInWinterModel", "froze", "[I", true)
  | 5 => ("SaidInWinterModel", "fingers", "[I", true)
  | 6 => ("SaidInWinterModel", "thrown", "I", false)
  | 7 => ("SaidInWinterModel", "kept", "[I", true)
  | 8 => ("SaidInWinterModel", "imaged", "[I", true)
  | 9 => ("SaidInWinterModel", "hasImage", "Z", false)
  | 10 => ("SaidInWinterModel", "place", "I", false)
  | 11 => ("SaidInWinterModel", "isTaking", "Z", false)
  | 12 => ("SaidInWinterModel", "keptIn", "[I", false)
  | 13 => ("SaidInWinterModel", "base", "I", false)
  | 14 => ("SaidInWinterModel", "end", "I", false)
  | 15 => ("SaidInWinterModel", "at", "I", false)
  | 16 => ("SaidInWinterModel", "isBad", "Z", false)
  | 17 => ("SaidInWinterModel", "statements", "I", false)
  | 18 => ("SaidInWinterModel", "placeOf", "[I", true)
  | 19 => ("SaidInWinterModel", "letterOf", "[I", true)
  | 20 => ("SaidInWinterModel", "told", "[I", true)
  | 21 => ("SaidInWinterModel", "seed", "I", false)
  | 22 => ("SaidInWinterModel", "holdsWhat", "[I", true)
  | 23 => ("SaidInWinterModel", "layerKind", "[I", true)
  | 24 => ("SaidInWinterModel", "layerOath", "[I", true)
  | 25 => ("SaidInWinterModel", "rowSort", "[I", true)
  | 26 => ("SaidInWinterModel", "rowMany", "[I", true)
  | 27 => ("SaidInWinterModel", "rows", "[J", true)
  | _ => ("SaidInWinterModel", "between", "[J", true)
def tyX12 : Nat → FieldType := fun k => match k with
  | 0 => .int
  | 1 => .array .int
  | 2 => .array .int
  | 3 => .array .int
  | 4 => .array .int
  | 5 => .array .int
  | 6 => .int
  | 7 => .array .int
  | 8 => .array .int
  | 9 => .boolean
  | 10 => .int
  | 11 => .boolean
  | 12 => .array .int
  | 13 => .int
  | 14 => .int
  | 15 => .int
  | 16 => .boolean
  | 17 => .int
  | 18 => .array .int
  | 19 => .array .int
  | 20 => .array .int
  | 21 => .int
  | 22 => .array .int
  | 23 => .array .int
  | 24 => .array .int
  | 25 => .array .int
  | 26 => .array .int
  | 27 => .array .long
  | _ => .array .long
abbrev wsX120 : List Cond := u_ws RX12 TX12 29
theorem nmX12 : ∀ a, a < 29 → ∀ b, b < 29 → a ≠ b → (TX12 a).2.1 ≠ (TX12 b).2.1 := by decide +kernel
theorem tyX12_ok : ∀ k, k < 29 → parseFieldDescriptor (TX12 k).2.2.1 = some (tyX12 k) := by decide +kernel
abbrev cX12_init : ByteArray := prog_14_method_1_code
def yX12_init : MethodName := ⟨RX12, "<init>", "()V"⟩
abbrev cX12_thrown : ByteArray := prog_14_method_2_code
def yX12_thrown : MethodName := ⟨RX12, "thrown", "()I"⟩
abbrev cX12_in : ByteArray := prog_14_method_3_code
def yX12_in : MethodName := ⟨RX12, "in", "(JJJ)Z"⟩
abbrev cX12_isCell : ByteArray := prog_14_method_4_code
def yX12_isCell : MethodName := ⟨RX12, "isCell", "(I)Z"⟩
abbrev cX12_thickOf : ByteArray := prog_14_method_5_code
def yX12_thickOf : MethodName := ⟨RX12, "thickOf", "(III)I"⟩
abbrev cX12_meltsOf : ByteArray := prog_14_method_6_code
def yX12_meltsOf : MethodName := ⟨RX12, "meltsOf", "(II)I"⟩
abbrev cX12_lightOf : ByteArray := prog_14_method_7_code
def yX12_lightOf : MethodName := ⟨RX12, "lightOf", "(II)I"⟩
abbrev cX12_tollOf : ByteArray := prog_14_method_8_code
def yX12_tollOf : MethodName := ⟨RX12, "tollOf", "(II)I"⟩
abbrev cX12_freezes : ByteArray := prog_14_method_9_code
def yX12_freezes : MethodName := ⟨RX12, "freezes", "(IIII)Z"⟩
abbrev cX12_warmDay : ByteArray := prog_14_method_10_code
def yX12_warmDay : MethodName := ⟨RX12, "warmDay", "()I"⟩
abbrev cX12_cuts : ByteArray := prog_14_method_11_code
def yX12_cuts : MethodName := ⟨RX12, "cuts", "(II)I"⟩
abbrev cX12_swapInts : ByteArray := prog_14_method_12_code
def yX12_swapInts : MethodName := ⟨RX12, "swapInts", "([III)V"⟩
abbrev cX12_drifts : ByteArray := prog_14_method_13_code
def yX12_drifts : MethodName := ⟨RX12, "drifts", "()V"⟩
abbrev cX12_carry : ByteArray := prog_14_method_14_code
def yX12_carry : MethodName := ⟨RX12, "carry", "(I)I"⟩
abbrev cX12_carryAll : ByteArray := prog_14_method_15_code
def yX12_carryAll : MethodName := ⟨RX12, "carryAll", "([IZ)V"⟩
abbrev cX12_open : ByteArray := prog_14_method_16_code
def yX12_open : MethodName := ⟨RX12, "open", "()V"⟩
abbrev cX12_close : ByteArray := prog_14_method_17_code
def yX12_close : MethodName := ⟨RX12, "close", "()V"⟩
abbrev cX12_iceOf : ByteArray := prog_14_method_18_code
def yX12_iceOf : MethodName := ⟨RX12, "iceOf", "(I)I"⟩
abbrev cX12_iceOfAll : ByteArray := prog_14_method_19_code
def yX12_iceOfAll : MethodName := ⟨RX12, "iceOfAll", "()I"⟩
abbrev cX12_image : ByteArray := prog_14_method_20_code
def yX12_image : MethodName := ⟨RX12, "image", "()I"⟩
abbrev cX12_restore : ByteArray := prog_14_method_21_code
def yX12_restore : MethodName := ⟨RX12, "restore", "()I"⟩
abbrev cX12_here : ByteArray := prog_14_method_22_code
def yX12_here : MethodName := ⟨RX12, "here", "()I"⟩
abbrev cX12_readDigit : ByteArray := prog_14_method_23_code
def yX12_readDigit : MethodName := ⟨RX12, "readDigit", "()I"⟩
abbrev cX12_readStatement : ByteArray := prog_14_method_24_code
def yX12_readStatement : MethodName := ⟨RX12, "readStatement", "()V"⟩
abbrev cX12_comes : ByteArray := prog_14_method_25_code
def yX12_comes : MethodName := ⟨RX12, "comes", "(I)Z"⟩
abbrev cX12_lake : ByteArray := prog_14_method_26_code
def yX12_lake : MethodName := ⟨RX12, "lake", "(I)I"⟩
abbrev cX12_wrongLayer : ByteArray := prog_14_method_27_code
def yX12_wrongLayer : MethodName := ⟨RX12, "wrongLayer", "(I)I"⟩
abbrev cX12_freeze : ByteArray := prog_14_method_28_code
def yX12_freeze : MethodName := ⟨RX12, "freeze", "(III)I"⟩
abbrev cX12_thaw : ByteArray := prog_14_method_29_code
def yX12_thaw : MethodName := ⟨RX12, "thaw", "(I)I"⟩
abbrev cX12_cut : ByteArray := prog_14_method_30_code
def yX12_cut : MethodName := ⟨RX12, "cut", "(II)I"⟩
abbrev cX12_drift : ByteArray := prog_14_method_31_code
def yX12_drift : MethodName := ⟨RX12, "drift", "()I"⟩
abbrev cX12_winter : ByteArray := prog_14_method_32_code
def yX12_winter : MethodName := ⟨RX12, "winter", "()I"⟩
abbrev cX12_depthOf : ByteArray := prog_14_method_33_code
def yX12_depthOf : MethodName := ⟨RX12, "depthOf", "(II)I"⟩
abbrev cX12_isRead : ByteArray := prog_14_method_34_code
def yX12_isRead : MethodName := ⟨RX12, "isRead", "(II)Z"⟩
abbrev cX12_isLayer : ByteArray := prog_14_method_35_code
def yX12_isLayer : MethodName := ⟨RX12, "isLayer", "(II)Z"⟩
abbrev cX12_layer : ByteArray := prog_14_method_36_code
def yX12_layer : MethodName := ⟨RX12, "layer", "(III)I"⟩
abbrev cX12_cell : ByteArray := prog_14_method_37_code
def yX12_cell : MethodName := ⟨RX12, "cell", "(II)I"⟩
abbrev cX12_holds : ByteArray := prog_14_method_38_code
def yX12_holds : MethodName := ⟨RX12, "holds", "(I)I"⟩
abbrev cX12_latest : ByteArray := prog_14_method_39_code
def yX12_latest : MethodName := ⟨RX12, "latest", "(I)I"⟩
abbrev cX12_seenIn : ByteArray := prog_14_method_40_code
def yX12_seenIn : MethodName := ⟨RX12, "seenIn", "(II)I"⟩
abbrev cX12_seenBy : ByteArray := prog_14_method_41_code
def yX12_seenBy : MethodName := ⟨RX12, "seenBy", "(II)I"⟩
abbrev cX12_seen : ByteArray := prog_14_method_42_code
def yX12_seen : MethodName := ⟨RX12, "seen", "(II)I"⟩
abbrev cX12_ones : ByteArray := prog_14_method_43_code
def yX12_ones : MethodName := ⟨RX12, "ones", "(I)I"⟩
abbrev cX12_holes : ByteArray := prog_14_method_44_code
def yX12_holes : MethodName := ⟨RX12, "holes", "(II)I"⟩
abbrev cX12_lastsOf : ByteArray := prog_14_method_45_code
def yX12_lastsOf : MethodName := ⟨RX12, "lastsOf", "(II)I"⟩
abbrev cX12_lasts : ByteArray := prog_14_method_46_code
def yX12_lasts : MethodName := ⟨RX12, "lasts", "(II)I"⟩
abbrev cX12_frost : ByteArray := prog_14_method_47_code
def yX12_frost : MethodName := ⟨RX12, "frost", "(III)I"⟩
abbrev cX12_where : ByteArray := prog_14_method_48_code
def yX12_where : MethodName := ⟨RX12, "where", "(II)I"⟩
abbrev cX12_lowestOf : ByteArray := prog_14_method_49_code
def yX12_lowestOf : MethodName := ⟨RX12, "lowestOf", "(II)I"⟩
abbrev cX12_isThin : ByteArray := prog_14_method_50_code
def yX12_isThin : MethodName := ⟨RX12, "isThin", "(II)Z"⟩
abbrev cX12_thin : ByteArray := prog_14_method_51_code
def yX12_thin : MethodName := ⟨RX12, "thin", "(I)I"⟩
abbrev cX12_layerAt : ByteArray := prog_14_method_52_code
def yX12_layerAt : MethodName := ⟨RX12, "layerAt", "(II)I"⟩
abbrev cX12_spans : ByteArray := prog_14_method_53_code
def yX12_spans : MethodName := ⟨RX12, "spans", "(II)I"⟩
abbrev cX12_disorder : ByteArray := prog_14_method_54_code
def yX12_disorder : MethodName := ⟨RX12, "disorder", "()I"⟩
abbrev cX12_oathBits : ByteArray := prog_14_method_55_code
def yX12_oathBits : MethodName := ⟨RX12, "oathBits", "()I"⟩
abbrev cX12_aheadOf : ByteArray := prog_14_method_56_code
def yX12_aheadOf : MethodName := ⟨RX12, "aheadOf", "(I)I"⟩
abbrev cX12_order : ByteArray := prog_14_method_57_code
def yX12_order : MethodName := ⟨RX12, "order", "(I)I"⟩
abbrev cX12_joined : ByteArray := prog_14_method_58_code
def yX12_joined : MethodName := ⟨RX12, "joined", "(II)I"⟩
abbrev cX12_draw : ByteArray := prog_14_method_59_code
def yX12_draw : MethodName := ⟨RX12, "draw", "(I)I"⟩
abbrev cX12_seeded : ByteArray := prog_14_method_60_code
def yX12_seeded : MethodName := ⟨RX12, "seeded", "(II)I"⟩
abbrev cX12_skippedIn : ByteArray := prog_14_method_61_code
def yX12_skippedIn : MethodName := ⟨RX12, "skippedIn", "(I)J"⟩
abbrev cX12_judge : ByteArray := prog_14_method_62_code
def yX12_judge : MethodName := ⟨RX12, "judge", "(I)I"⟩
abbrev cX12_count : ByteArray := prog_14_method_63_code
def yX12_count : MethodName := ⟨RX12, "count", "(I)I"⟩
abbrev cX12_wrongSort : ByteArray := prog_14_method_64_code
def yX12_wrongSort : MethodName := ⟨RX12, "wrongSort", "(II)I"⟩
abbrev cX12_keep : ByteArray := prog_14_method_65_code
def yX12_keep : MethodName := ⟨RX12, "keep", "(IIII)I"⟩
abbrev cX12_wrongRow : ByteArray := prog_14_method_66_code
def yX12_wrongRow : MethodName := ⟨RX12, "wrongRow", "(I)I"⟩
abbrev cX12_narrowed : ByteArray := prog_14_method_67_code
def yX12_narrowed : MethodName := ⟨RX12, "narrowed", "(II)J"⟩
abbrev cX12_row : ByteArray := prog_14_method_68_code
def yX12_row : MethodName := ⟨RX12, "row", "(III)I"⟩
abbrev cX12_put : ByteArray := prog_14_method_69_code
def yX12_put : MethodName := ⟨RX12, "put", "(III)I"⟩
abbrev cX12_element : ByteArray := prog_14_method_70_code
def yX12_element : MethodName := ⟨RX12, "element", "(II)J"⟩
abbrev cX12_copy : ByteArray := prog_14_method_71_code
def yX12_copy : MethodName := ⟨RX12, "copy", "(IIIII)I"⟩
abbrev cX12_toll : ByteArray := prog_14_method_72_code
def yX12_toll : MethodName := ⟨RX12, "toll", "(I)I"⟩
abbrev cX12_toss : ByteArray := prog_14_method_73_code
def yX12_toss : MethodName := ⟨RX12, "toss", "(I)I"⟩
def RJx145de : String := "java/io/Serializable"
def TJx145de : u_T := fun k => match k with
  | _ => ("", "", "", false)
def tyJx145de : Nat → FieldType := fun k => match k with
  | _ => .int
abbrev wsJx145de0 : List Cond := u_ws RJx145de TJx145de 0
theorem nmJx145de : ∀ a, a < 0 → ∀ b, b < 0 → a ≠ b → (TJx145de a).2.1 ≠ (TJx145de b).2.1 := by decide +kernel
theorem tyJx145de_ok : ∀ k, k < 0 → parseFieldDescriptor (TJx145de k).2.2.1 = some (tyJx145de k) := by decide +kernel
def RJ6 : String := "java/lang/Integer"
def TJ6 : u_T := fun k => match k with
  | _ => ("", "", "", false)
def tyJ6 : Nat → FieldType := fun k => match k with
  | _ => .int
abbrev wsJ60 : List Cond := u_ws RJ6 TJ6 0
theorem nmJ6 : ∀ a, a < 0 → ∀ b, b < 0 → a ≠ b → (TJ6 a).2.1 ≠ (TJ6 b).2.1 := by decide +kernel
theorem tyJ6_ok : ∀ k, k < 0 → parseFieldDescriptor (TJ6 k).2.2.1 = some (tyJ6 k) := by decide +kernel
abbrev cJ6_bitCount_0f7a4 : ByteArray := prog_18_method_49_code
def yJ6_bitCount_0f7a4 : MethodName := ⟨RJ6, "bitCount", "(I)I"⟩
def RJ9 : String := "java/lang/Math"
def TJ9 : u_T := fun k => match k with
  | _ => ("", "", "", false)
def tyJ9 : Nat → FieldType := fun k => match k with
  | _ => .int
abbrev wsJ90 : List Cond := u_ws RJ9 TJ9 0
theorem nmJ9 : ∀ a, a < 0 → ∀ b, b < 0 → a ≠ b → (TJ9 a).2.1 ≠ (TJ9 b).2.1 := by decide +kernel
theorem tyJ9_ok : ∀ k, k < 0 → parseFieldDescriptor (TJ9 k).2.2.1 = some (tyJ9 k) := by decide +kernel
abbrev cJ9_max_7cf53 : ByteArray := prog_19_method_65_code
def yJ9_max_7cf53 : MethodName := ⟨RJ9, "max", "(II)I"⟩
abbrev cJ9_min_7cf53 : ByteArray := prog_19_method_69_code
def yJ9_min_7cf53 : MethodName := ⟨RJ9, "min", "(II)I"⟩
def RJ0 : String := "java/lang/String"
def TJ0 : u_T := fun k => match k with
  | _ => ("", "", "", false)
def tyJ0 : Nat → FieldType := fun k => match k with
  | _ => .int
abbrev wsJ00 : List Cond := u_ws RJ0 TJ0 0
theorem nmJ0 : ∀ a, a < 0 → ∀ b, b < 0 → a ≠ b → (TJ0 a).2.1 ≠ (TJ0 b).2.1 := by decide +kernel
theorem tyJ0_ok : ∀ k, k < 0 → parseFieldDescriptor (TJ0 k).2.2.1 = some (tyJ0 k) := by decide +kernel
def RJ10 : String := "java/lang/System"
def TJ10 : u_T := fun k => match k with
  | _ => ("", "", "", false)
def tyJ10 : Nat → FieldType := fun k => match k with
  | _ => .int
abbrev wsJ100 : List Cond := u_ws RJ10 TJ10 0
theorem nmJ10 : ∀ a, a < 0 → ∀ b, b < 0 → a ≠ b → (TJ10 a).2.1 ≠ (TJ10 b).2.1 := by decide +kernel
theorem tyJ10_ok : ∀ k, k < 0 → parseFieldDescriptor (TJ10 k).2.2.1 = some (tyJ10 k) := by decide +kernel
def RJ7 : String := "java/util/Arrays"
def TJ7 : u_T := fun k => match k with
  | _ => ("", "", "", false)
def tyJ7 : Nat → FieldType := fun k => match k with
  | _ => .int
abbrev wsJ70 : List Cond := u_ws RJ7 TJ7 0
theorem nmJ7 : ∀ a, a < 0 → ∀ b, b < 0 → a ≠ b → (TJ7 a).2.1 ≠ (TJ7 b).2.1 := by decide +kernel
theorem tyJ7_ok : ∀ k, k < 0 → parseFieldDescriptor (TJ7 k).2.2.1 = some (tyJ7 k) := by decide +kernel
abbrev cJ7_fill_53178 : ByteArray := prog_25_method_103_code
def yJ7_fill_53178 : MethodName := ⟨RJ7, "fill", "([II)V"⟩
def RL : String := "SaidInWinterLaw"
abbrev cL_element : ByteArray := method_3_code
def yL_element : MethodName := ⟨RL, "element", "(LSaidInWinter;II[J)I"⟩
abbrev cL_law : ByteArray := code
def yL_law : MethodName := ⟨RL, "law", "([I)Z"⟩
def wsX7_init : List Cond := .code yX7_init cX7_init 1 none :: ([.methodLink RX7 1 objectInit, .instanceMethod objectInit, .code objectInit ⟨#[0xb1]⟩ 1 none])
def wsX3_init : List Cond := .code yX3_init cX3_init 1 none :: ([.instanceMethod yX7_init, .initialized RX7, .code yX7_init cX7_init 1 none, .methodLink RX7 1 objectInit, .instanceMethod objectInit, .code objectInit ⟨#[0xb1]⟩ 1 none])
def wsX0_init : List Cond := .code yX0_init cX0_init 1 none :: ([.instanceMethod yX3_init, .initialized RX3, .code yX3_init cX3_init 1 none, .instanceMethod yX7_init, .initialized RX7, .code yX7_init cX7_init 1 none, .methodLink RX7 1 objectInit, .instanceMethod objectInit, .code objectInit ⟨#[0xb1]⟩ 1 none])
def wsX7_fingersIn : List Cond := .code yX7_fingersIn cX7_fingersIn 3 (some .int) :: ([])
def wsX3_fingersIn : List Cond := .code yX3_fingersIn cX3_fingersIn 3 (some .int) :: ([.methodLink RX3 7 yX7_fingersIn, .sameMethod "SaidInWinter$Layer" "SaidInWinter$Layer" "fingersIn" "(II)I", .superclass RX3 RX7, .instanceMethod yX7_fingersIn, .initialized RX7, .code yX7_fingersIn cX7_fingersIn 3 (some .int)])
def wsX0_fingersIn : List Cond := .code yX0_fingersIn cX0_fingersIn 3 (some .int) :: ([.methodLink RX0 7 yX3_fingersIn, .sameMethod "SaidInWinter$Clear" "SaidInWinter$Clear" "fingersIn" "(II)I", .superclass RX0 RX3, .instanceMethod yX3_fingersIn, .initialized RX3, .code yX3_fingersIn cX3_fingersIn 3 (some .int), .methodLink RX3 7 yX7_fingersIn, .sameMethod "SaidInWinter$Layer" "SaidInWinter$Layer" "fingersIn" "(II)I", .superclass RX3 RX7, .instanceMethod yX7_fingersIn, .initialized RX7, .code yX7_fingersIn cX7_fingersIn 3 (some .int)])
def wsX7_light : List Cond := .code yX7_light cX7_light 2 (some .int) :: ([])
def wsX3_light : List Cond := .code yX3_light cX3_light 2 (some .int) :: ([.methodLink RX3 15 yX7_light, .sameMethod "SaidInWinter$Layer" "SaidInWinter$Layer" "light" "(I)I", .superclass RX3 RX7, .instanceMethod yX7_light, .initialized RX7, .code yX7_light cX7_light 2 (some .int)])
def wsX0_light : List Cond := .code yX0_light cX0_light 2 (some .int) :: ([.methodLink RX0 11 yX3_light, .sameMethod "SaidInWinter$Clear" "SaidInWinter$Clear" "light" "(I)I", .superclass RX0 RX3, .instanceMethod yX3_light, .initialized RX3, .code yX3_light cX3_light 2 (some .int), .methodLink RX3 15 yX7_light, .sameMethod "SaidInWinter$Layer" "SaidInWinter$Layer" "light" "(I)I", .superclass RX3 RX7, .instanceMethod yX7_light, .initialized RX7, .code yX7_light cX7_light 2 (some .int)])
def wsX7_tollWith : List Cond := .code yX7_tollWith cX7_tollWith 2 (some .int) :: ([])
def wsX3_tollWith : List Cond := .code yX3_tollWith cX3_tollWith 2 (some .int) :: ([.methodLink RX3 18 yX7_tollWith, .sameMethod "SaidInWinter$Layer" "SaidInWinter$Layer" "tollWith" "(I)I", .superclass RX3 RX7, .instanceMethod yX7_tollWith, .initialized RX7, .code yX7_tollWith cX7_tollWith 2 (some .int)])
def wsX0_tollWith : List Cond := .code yX0_tollWith cX0_tollWith 2 (some .int) :: ([.methodLink RX0 15 yX3_tollWith, .sameMethod "SaidInWinter$Clear" "SaidInWinter$Clear" "tollWith" "(I)I", .superclass RX0 RX3, .instanceMethod yX3_tollWith, .initialized RX3, .code yX3_tollWith cX3_tollWith 2 (some .int), .methodLink RX3 18 yX7_tollWith, .sameMethod "SaidInWinter$Layer" "SaidInWinter$Layer" "tollWith" "(I)I", .superclass RX3 RX7, .instanceMethod yX7_tollWith, .initialized RX7, .code yX7_tollWith cX7_tollWith 2 (some .int)])
def wsX1_init : List Cond := .code yX1_init cX1_init 1 none :: ([.instanceMethod yX3_init, .initialized RX3, .code yX3_init cX3_init 1 none, .instanceMethod yX7_init, .initialized RX7, .code yX7_init cX7_init 1 none, .methodLink RX7 1 objectInit, .instanceMethod objectInit, .code objectInit ⟨#[0xb1]⟩ 1 none])
def wsX7_melts : List Cond := .code yX7_melts cX7_melts 2 (some .int) :: ([])
def wsX3_melts : List Cond := .code yX3_melts cX3_melts 2 (some .int) :: ([.methodLink RX3 11 yX7_melts, .sameMethod "SaidInWinter$Layer" "SaidInWinter$Layer" "melts" "(I)I", .superclass RX3 RX7, .instanceMethod yX7_melts, .initialized RX7, .code yX7_melts cX7_melts 2 (some .int)])
def wsX1_melts : List Cond := .code yX1_melts cX1_melts 2 (some .int) :: ([.methodLink RX1 7 yX3_melts, .sameMethod "SaidInWinter$Clear" "SaidInWinter$Clear" "melts" "(I)I", .superclass RX1 RX3, .instanceMethod yX3_melts, .initialized RX3, .code yX3_melts cX3_melts 2 (some .int), .methodLink RX3 11 yX7_melts, .sameMethod "SaidInWinter$Layer" "SaidInWinter$Layer" "melts" "(I)I", .superclass RX3 RX7, .instanceMethod yX7_melts, .initialized RX7, .code yX7_melts cX7_melts 2 (some .int)])
def wsX1_light : List Cond := .code yX1_light cX1_light 2 (some .int) :: ([.methodLink RX1 11 yX3_light, .sameMethod "SaidInWinter$Clear" "SaidInWinter$Clear" "light" "(I)I", .superclass RX1 RX3, .instanceMethod yX3_light, .initialized RX3, .code yX3_light cX3_light 2 (some .int), .methodLink RX3 15 yX7_light, .sameMethod "SaidInWinter$Layer" "SaidInWinter$Layer" "light" "(I)I", .superclass RX3 RX7, .instanceMethod yX7_light, .initialized RX7, .code yX7_light cX7_light 2 (some .int)])
def wsX1_tollWith : List Cond := .code yX1_tollWith cX1_tollWith 2 (some .int) :: ([.methodLink RX1 14 yX3_tollWith, .sameMethod "SaidInWinter$Clear" "SaidInWinter$Clear" "tollWith" "(I)I", .superclass RX1 RX3, .instanceMethod yX3_tollWith, .initialized RX3, .code yX3_tollWith cX3_tollWith 2 (some .int), .methodLink RX3 18 yX7_tollWith, .sameMethod "SaidInWinter$Layer" "SaidInWinter$Layer" "tollWith" "(I)I", .superclass RX3 RX7, .instanceMethod yX7_tollWith, .initialized RX7, .code yX7_tollWith cX7_tollWith 2 (some .int)])
def wsX1_fail : List Cond := .code yX1_fail cX1_fail 1 none :: ([.classLink RX1 17 "java/lang/IllegalArgumentException", .initialized "java/lang/IllegalArgumentException"] ++ (vx_atS RX1 21 "java/lang/IllegalArgumentException" ["java/lang/RuntimeException", "java/lang/Exception"]).filter goodWord)
def wsX2_init : List Cond := .code yX2_init cX2_init 1 none :: ([.methodLink RX2 3 objectInit, .instanceMethod objectInit, .code objectInit ⟨#[0xb1]⟩ 1 none, .arrayClass .int, .fieldLink RX2 9 "SaidInWinter$Cell" "kind" "[I", .fieldLink RX2 15 "SaidInWinter$Cell" "oath" "[I", .fieldLink RX2 18 "SaidInWinter$Cell" "frozenIn" "[I", .fieldLink RX2 21 "SaidInWinter$Cell" "thick" "[I", .fieldLink RX2 24 "SaidInWinter$Cell" "melts" "[I", .fieldLink RX2 27 "SaidInWinter$Cell" "light" "[I"] ++ wsX20)
def wsX2_has : List Cond := .code yX2_has cX2_has 2 (some .boolean) :: ([.fieldLink RX2 30 "SaidInWinter$Cell" "layers" "I"] ++ wsX20)
def wsX2_oathAt : List Cond := .code yX2_oathAt cX2_oathAt 2 (some .int) :: ([.fieldLink RX2 15 "SaidInWinter$Cell" "oath" "[I", .methodLink RX2 34 yX2_has, .instanceMethod yX2_has, .selects RX2 yX2_has yX2_has, .initialized RX2, .code yX2_has cX2_has 2 (some .boolean), .fieldLink RX2 30 "SaidInWinter$Cell" "layers" "I"] ++ wsX20)
def wsX2_winterAt : List Cond := .code yX2_winterAt cX2_winterAt 2 (some .int) :: ([.fieldLink RX2 18 "SaidInWinter$Cell" "frozenIn" "[I", .methodLink RX2 34 yX2_has, .instanceMethod yX2_has, .selects RX2 yX2_has yX2_has, .initialized RX2, .code yX2_has cX2_has 2 (some .boolean), .fieldLink RX2 30 "SaidInWinter$Cell" "layers" "I"] ++ wsX20)
def wsX2_thickAt : List Cond := .code yX2_thickAt cX2_thickAt 2 (some .int) :: ([.fieldLink RX2 21 "SaidInWinter$Cell" "thick" "[I", .methodLink RX2 34 yX2_has, .instanceMethod yX2_has, .selects RX2 yX2_has yX2_has, .initialized RX2, .code yX2_has cX2_has 2 (some .boolean), .fieldLink RX2 30 "SaidInWinter$Cell" "layers" "I"] ++ wsX20)
def wsX2_meltsAt : List Cond := .code yX2_meltsAt cX2_meltsAt 2 (some .int) :: ([.fieldLink RX2 24 "SaidInWinter$Cell" "melts" "[I", .methodLink RX2 34 yX2_has, .instanceMethod yX2_has, .selects RX2 yX2_has yX2_has, .initialized RX2, .code yX2_has cX2_has 2 (some .boolean), .fieldLink RX2 30 "SaidInWinter$Cell" "layers" "I"] ++ wsX20)
def wsX2_lightAt : List Cond := .code yX2_lightAt cX2_lightAt 2 (some .int) :: ([.fieldLink RX2 27 "SaidInWinter$Cell" "light" "[I", .methodLink RX2 34 yX2_has, .instanceMethod yX2_has, .selects RX2 yX2_has yX2_has, .initialized RX2, .code yX2_has cX2_has 2 (some .boolean), .fieldLink RX2 30 "SaidInWinter$Cell" "layers" "I"] ++ wsX20)
def wsX2_depthAt : List Cond := .code yX2_depthAt cX2_depthAt 4 (some .int) :: ([.fieldLink RX2 30 "SaidInWinter$Cell" "layers" "I", .methodLink RX2 38 yX2_thickAt, .instanceMethod yX2_thickAt, .selects RX2 yX2_thickAt yX2_thickAt, .initialized RX2, .code yX2_thickAt cX2_thickAt 2 (some .int), .fieldLink RX2 21 "SaidInWinter$Cell" "thick" "[I", .methodLink RX2 34 yX2_has, .instanceMethod yX2_has, .selects RX2 yX2_has yX2_has, .code yX2_has cX2_has 2 (some .boolean)] ++ wsX20)
def wsX2_ice : List Cond := .code yX2_ice cX2_ice 1 (some .int) :: ([.methodLink RX2 42 yX2_depthAt, .instanceMethod yX2_depthAt, .selects RX2 yX2_depthAt yX2_depthAt, .initialized RX2, .code yX2_depthAt cX2_depthAt 4 (some .int), .fieldLink RX2 30 "SaidInWinter$Cell" "layers" "I", .methodLink RX2 38 yX2_thickAt, .instanceMethod yX2_thickAt, .selects RX2 yX2_thickAt yX2_thickAt, .code yX2_thickAt cX2_thickAt 2 (some .int), .fieldLink RX2 21 "SaidInWinter$Cell" "thick" "[I", .methodLink RX2 34 yX2_has, .instanceMethod yX2_has, .selects RX2 yX2_has yX2_has, .code yX2_has cX2_has 2 (some .boolean)] ++ wsX20)
def wsX2_canRead : List Cond := .code yX2_canRead cX2_canRead 2 (some .boolean) :: ([.methodLink RX2 34 yX2_has, .instanceMethod yX2_has, .selects RX2 yX2_has yX2_has, .initialized RX2, .code yX2_has cX2_has 2 (some .boolean), .fieldLink RX2 30 "SaidInWinter$Cell" "layers" "I", .methodLink RX2 42 yX2_depthAt, .instanceMethod yX2_depthAt, .selects RX2 yX2_depthAt yX2_depthAt, .code yX2_depthAt cX2_depthAt 4 (some .int), .methodLink RX2 38 yX2_thickAt, .instanceMethod yX2_thickAt, .selects RX2 yX2_thickAt yX2_thickAt, .code yX2_thickAt cX2_thickAt 2 (some .int), .fieldLink RX2 21 "SaidInWinter$Cell" "thick" "[I", .methodLink RX2 45 yX2_lightAt, .instanceMethod yX2_lightAt, .selects RX2 yX2_lightAt yX2_lightAt, .code yX2_lightAt cX2_lightAt 2 (some .int), .fieldLink RX2 27 "SaidInWinter$Cell" "light" "[I"] ++ wsX20)
def wsX2_tellOf_r1 : List Cond := [Cond.fieldLink RX2 9 "SaidInWinter$Cell" "kind" "[I", Cond.methodLink RX2 34 yX2_has, Cond.instanceMethod yX2_has, Cond.selects RX2 yX2_has yX2_has, Cond.initialized RX2, Cond.code yX2_has cX2_has 2 (some .boolean), Cond.fieldLink RX2 30 "SaidInWinter$Cell" "layers" "I", Cond.methodLink RX2 48 yX2_oathAt, Cond.instanceMethod yX2_oathAt, Cond.selects RX2 yX2_oathAt yX2_oathAt, Cond.code yX2_oathAt cX2_oathAt 2 (some .int), Cond.fieldLink RX2 15 "SaidInWinter$Cell" "oath" "[I", Cond.methodLink RX2 51 yX2_winterAt, Cond.instanceMethod yX2_winterAt, Cond.selects RX2 yX2_winterAt yX2_winterAt, Cond.code yX2_winterAt cX2_winterAt 2 (some .int), Cond.fieldLink RX2 18 "SaidInWinter$Cell" "frozenIn" "[I", Cond.methodLink RX2 38 yX2_thickAt, Cond.instanceMethod yX2_thickAt, Cond.selects RX2 yX2_thickAt yX2_thickAt, Cond.code yX2_thickAt cX2_thickAt 2 (some .int), Cond.fieldLink RX2 21 "SaidInWinter$Cell" "thick" "[I", Cond.methodLink RX2 42 yX2_depthAt, Cond.instanceMethod yX2_depthAt]
def wsX2_tellOf_r2 : List Cond := [Cond.selects RX2 yX2_depthAt yX2_depthAt, Cond.code yX2_depthAt cX2_depthAt 4 (some .int), Cond.methodLink RX2 54 yX2_canRead, Cond.instanceMethod yX2_canRead, Cond.selects RX2 yX2_canRead yX2_canRead, Cond.code yX2_canRead cX2_canRead 2 (some .boolean), Cond.methodLink RX2 45 yX2_lightAt, Cond.instanceMethod yX2_lightAt, Cond.selects RX2 yX2_lightAt yX2_lightAt, Cond.code yX2_lightAt cX2_lightAt 2 (some .int), Cond.fieldLink RX2 27 "SaidInWinter$Cell" "light" "[I"]
def wsX2_tellOf : List Cond := .code yX2_tellOf cX2_tellOf 3 (some .int) :: ((wsX2_tellOf_r1 ++ wsX2_tellOf_r2) ++ wsX20)
def wsX10_fingersIn : List Cond := .code yX10_fingersIn cX10_fingersIn 3 (some .int) :: ([.methodLink RX10 7 yX7_fingersIn, .sameMethod "SaidInWinter$Layer" "SaidInWinter$Layer" "fingersIn" "(II)I", .superclass RX10 RX7, .instanceMethod yX7_fingersIn, .initialized RX7, .code yX7_fingersIn cX7_fingersIn 3 (some .int)])
def wsX5_fingersIn : List Cond := .code yX5_fingersIn cX5_fingersIn 3 (some .int) :: ([.methodLink RX5 11 Lib.Math.max.name, .static Lib.Math.max.name, .initialized "java/lang/Math", .code Lib.Math.max.name Lib.Math.max.code 2 (some .int), .methodLink RX5 7 yX7_fingersIn, .sameMethod "SaidInWinter$Layer" "SaidInWinter$Layer" "fingersIn" "(II)I", .superclass RX5 RX7, .instanceMethod yX7_fingersIn, .initialized RX7, .code yX7_fingersIn cX7_fingersIn 3 (some .int)])
def wsX8_fingersIn : List Cond := .code yX8_fingersIn cX8_fingersIn 3 (some .int) :: ([.methodLink RX8 7 yX10_fingersIn, .sameMethod "SaidInWinter$Snow" "SaidInWinter$Snow" "fingersIn" "(II)I", .superclass RX8 RX10, .instanceMethod yX10_fingersIn, .initialized RX10, .code yX10_fingersIn cX10_fingersIn 3 (some .int), .methodLink RX10 7 yX7_fingersIn, .sameMethod "SaidInWinter$Layer" "SaidInWinter$Layer" "fingersIn" "(II)I", .superclass RX10 RX7, .instanceMethod yX7_fingersIn, .initialized RX7, .code yX7_fingersIn cX7_fingersIn 3 (some .int)])
def wsX10_melts : List Cond := .code yX10_melts cX10_melts 2 (some .int) :: ([.methodLink RX10 11 yX7_melts, .sameMethod "SaidInWinter$Layer" "SaidInWinter$Layer" "melts" "(I)I", .superclass RX10 RX7, .instanceMethod yX7_melts, .initialized RX7, .code yX7_melts cX7_melts 2 (some .int)])
def wsX4_melts : List Cond := .code yX4_melts cX4_melts 2 (some .int) :: ([.methodLink RX4 7 yX10_melts, .sameMethod "SaidInWinter$Snow" "SaidInWinter$Snow" "melts" "(I)I", .superclass RX4 RX10, .instanceMethod yX10_melts, .initialized RX10, .code yX10_melts cX10_melts 2 (some .int), .methodLink RX10 11 yX7_melts, .sameMethod "SaidInWinter$Layer" "SaidInWinter$Layer" "melts" "(I)I", .superclass RX10 RX7, .instanceMethod yX7_melts, .initialized RX7, .code yX7_melts cX7_melts 2 (some .int)])
def wsX5_melts : List Cond := .code yX5_melts cX5_melts 2 (some .int) :: ([.methodLink RX5 16 yX7_melts, .sameMethod "SaidInWinter$Layer" "SaidInWinter$Layer" "melts" "(I)I", .superclass RX5 RX7, .instanceMethod yX7_melts, .initialized RX7, .code yX7_melts cX7_melts 2 (some .int)])
def wsX8_melts : List Cond := .code yX8_melts cX8_melts 2 (some .int) :: ([.methodLink RX8 11 yX10_melts, .sameMethod "SaidInWinter$Snow" "SaidInWinter$Snow" "melts" "(I)I", .superclass RX8 RX10, .instanceMethod yX10_melts, .initialized RX10, .code yX10_melts cX10_melts 2 (some .int), .methodLink RX10 11 yX7_melts, .sameMethod "SaidInWinter$Layer" "SaidInWinter$Layer" "melts" "(I)I", .superclass RX10 RX7, .instanceMethod yX7_melts, .initialized RX7, .code yX7_melts cX7_melts 2 (some .int)])
def wsX4_light : List Cond := .code yX4_light cX4_light 2 (some .int) :: ([])
def wsX10_light : List Cond := .code yX10_light cX10_light 2 (some .int) :: ([.methodLink RX10 15 yX7_light, .sameMethod "SaidInWinter$Layer" "SaidInWinter$Layer" "light" "(I)I", .superclass RX10 RX7, .instanceMethod yX7_light, .initialized RX7, .code yX7_light cX7_light 2 (some .int)])
def wsX2_freezeOn_r1 : List Cond := [Cond.fieldLink RX2 30 "SaidInWinter$Cell" "layers" "I", Cond.fieldLink RX2 9 "SaidInWinter$Cell" "kind" "[I", Cond.fieldLink RX2 15 "SaidInWinter$Cell" "oath" "[I", Cond.fieldLink RX2 18 "SaidInWinter$Cell" "frozenIn" "[I", Cond.fieldLink RX2 21 "SaidInWinter$Cell" "thick" "[I", Cond.fieldLink RX2 24 "SaidInWinter$Cell" "melts" "[I", Cond.fieldLink RX2 27 "SaidInWinter$Cell" "light" "[I", Cond.methodLink RX2 57 ⟨"SaidInWinter$Layer", "fingersIn", "(II)I"⟩, Cond.sameMethod "SaidInWinter$Layer" "SaidInWinter$Layer" "fingersIn" "(II)I", Cond.instanceMethod ⟨"SaidInWinter$Layer", "fingersIn", "(II)I"⟩, Cond.selects RX0 ⟨"SaidInWinter$Layer", "fingersIn", "(II)I"⟩ yX0_fingersIn, Cond.instanceMethod yX0_fingersIn, Cond.initialized RX0, Cond.code yX0_fingersIn cX0_fingersIn 3 (some .int), Cond.methodLink RX0 7 yX3_fingersIn, Cond.sameMethod "SaidInWinter$Clear" "SaidInWinter$Clear" "fingersIn" "(II)I", Cond.superclass RX0 RX3, Cond.instanceMethod yX3_fingersIn, Cond.initialized RX3, Cond.code yX3_fingersIn cX3_fingersIn 3 (some .int), Cond.methodLink RX3 7 yX7_fingersIn, Cond.superclass RX3 RX7, Cond.instanceMethod yX7_fingersIn, Cond.initialized RX7]
def wsX2_freezeOn_r2 : List Cond := [Cond.code yX7_fingersIn cX7_fingersIn 3 (some .int), Cond.selects RX1 ⟨"SaidInWinter$Layer", "fingersIn", "(II)I"⟩ yX3_fingersIn, Cond.selects RX3 ⟨"SaidInWinter$Layer", "fingersIn", "(II)I"⟩ yX3_fingersIn, Cond.selects RX4 ⟨"SaidInWinter$Layer", "fingersIn", "(II)I"⟩ yX10_fingersIn, Cond.instanceMethod yX10_fingersIn, Cond.initialized RX10, Cond.code yX10_fingersIn cX10_fingersIn 3 (some .int), Cond.methodLink RX10 7 yX7_fingersIn, Cond.superclass RX10 RX7, Cond.selects RX5 ⟨"SaidInWinter$Layer", "fingersIn", "(II)I"⟩ yX5_fingersIn, Cond.instanceMethod yX5_fingersIn, Cond.initialized RX5, Cond.code yX5_fingersIn cX5_fingersIn 3 (some .int), Cond.methodLink RX5 11 Lib.Math.max.name, Cond.static Lib.Math.max.name, Cond.initialized "java/lang/Math", Cond.code Lib.Math.max.name Lib.Math.max.code 2 (some .int), Cond.methodLink RX5 7 yX7_fingersIn, Cond.superclass RX5 RX7, Cond.methodLink RX2 57 yX7_fingersIn, Cond.selects RX7 yX7_fingersIn yX7_fingersIn, Cond.selects RX8 ⟨"SaidInWinter$Layer", "fingersIn", "(II)I"⟩ yX8_fingersIn, Cond.instanceMethod yX8_fingersIn, Cond.initialized RX8]
def wsX2_freezeOn_r3 : List Cond := [Cond.code yX8_fingersIn cX8_fingersIn 3 (some .int), Cond.methodLink RX8 7 yX10_fingersIn, Cond.sameMethod "SaidInWinter$Snow" "SaidInWinter$Snow" "fingersIn" "(II)I", Cond.superclass RX8 RX10, Cond.selects RX10 ⟨"SaidInWinter$Layer", "fingersIn", "(II)I"⟩ yX10_fingersIn, Cond.methodLink RX2 63 ⟨"SaidInWinter$Layer", "melts", "(I)I"⟩, Cond.sameMethod "SaidInWinter$Layer" "SaidInWinter$Layer" "melts" "(I)I", Cond.instanceMethod ⟨"SaidInWinter$Layer", "melts", "(I)I"⟩, Cond.selects RX0 ⟨"SaidInWinter$Layer", "melts", "(I)I"⟩ yX3_melts, Cond.instanceMethod yX3_melts, Cond.code yX3_melts cX3_melts 2 (some .int), Cond.methodLink RX3 11 yX7_melts, Cond.instanceMethod yX7_melts, Cond.code yX7_melts cX7_melts 2 (some .int), Cond.selects RX1 ⟨"SaidInWinter$Layer", "melts", "(I)I"⟩ yX1_melts, Cond.instanceMethod yX1_melts, Cond.initialized RX1, Cond.code yX1_melts cX1_melts 2 (some .int), Cond.methodLink RX1 7 yX3_melts, Cond.sameMethod "SaidInWinter$Clear" "SaidInWinter$Clear" "melts" "(I)I", Cond.superclass RX1 RX3, Cond.selects RX3 ⟨"SaidInWinter$Layer", "melts", "(I)I"⟩ yX3_melts, Cond.selects RX4 ⟨"SaidInWinter$Layer", "melts", "(I)I"⟩ yX4_melts, Cond.instanceMethod yX4_melts]
def wsX2_freezeOn_r4 : List Cond := [Cond.initialized RX4, Cond.code yX4_melts cX4_melts 2 (some .int), Cond.methodLink RX4 7 yX10_melts, Cond.sameMethod "SaidInWinter$Snow" "SaidInWinter$Snow" "melts" "(I)I", Cond.superclass RX4 RX10, Cond.instanceMethod yX10_melts, Cond.code yX10_melts cX10_melts 2 (some .int), Cond.methodLink RX10 11 yX7_melts, Cond.selects RX5 ⟨"SaidInWinter$Layer", "melts", "(I)I"⟩ yX5_melts, Cond.instanceMethod yX5_melts, Cond.code yX5_melts cX5_melts 2 (some .int), Cond.methodLink RX5 16 yX7_melts, Cond.methodLink RX2 63 yX7_melts, Cond.selects RX7 yX7_melts yX7_melts, Cond.selects RX8 ⟨"SaidInWinter$Layer", "melts", "(I)I"⟩ yX8_melts, Cond.instanceMethod yX8_melts, Cond.code yX8_melts cX8_melts 2 (some .int), Cond.methodLink RX8 11 yX10_melts, Cond.selects RX10 ⟨"SaidInWinter$Layer", "melts", "(I)I"⟩ yX10_melts, Cond.methodLink RX2 65 ⟨"SaidInWinter$Layer", "light", "(I)I"⟩, Cond.sameMethod "SaidInWinter$Layer" "SaidInWinter$Layer" "light" "(I)I", Cond.instanceMethod ⟨"SaidInWinter$Layer", "light", "(I)I"⟩, Cond.selects RX0 ⟨"SaidInWinter$Layer", "light", "(I)I"⟩ yX0_light, Cond.instanceMethod yX0_light]
def wsX2_freezeOn_r5 : List Cond := [Cond.code yX0_light cX0_light 2 (some .int), Cond.methodLink RX0 11 yX3_light, Cond.sameMethod "SaidInWinter$Clear" "SaidInWinter$Clear" "light" "(I)I", Cond.instanceMethod yX3_light, Cond.code yX3_light cX3_light 2 (some .int), Cond.methodLink RX3 15 yX7_light, Cond.instanceMethod yX7_light, Cond.code yX7_light cX7_light 2 (some .int), Cond.selects RX1 ⟨"SaidInWinter$Layer", "light", "(I)I"⟩ yX1_light, Cond.instanceMethod yX1_light, Cond.code yX1_light cX1_light 2 (some .int), Cond.methodLink RX1 11 yX3_light, Cond.selects RX3 ⟨"SaidInWinter$Layer", "light", "(I)I"⟩ yX3_light, Cond.selects RX4 ⟨"SaidInWinter$Layer", "light", "(I)I"⟩ yX4_light, Cond.instanceMethod yX4_light, Cond.code yX4_light cX4_light 2 (some .int), Cond.selects RX5 ⟨"SaidInWinter$Layer", "light", "(I)I"⟩ yX7_light, Cond.methodLink RX2 65 yX7_light, Cond.selects RX7 yX7_light yX7_light, Cond.selects RX8 ⟨"SaidInWinter$Layer", "light", "(I)I"⟩ yX10_light, Cond.instanceMethod yX10_light, Cond.code yX10_light cX10_light 2 (some .int), Cond.methodLink RX10 15 yX7_light, Cond.selects RX10 ⟨"SaidInWinter$Layer", "light", "(I)I"⟩ yX10_light]
def wsX2_freezeOn : List Cond := .code yX2_freezeOn cX2_freezeOn 7 (some .int) :: ((wsX2_freezeOn_r1 ++ (wsX2_freezeOn_r2 ++ (wsX2_freezeOn_r3 ++ (wsX2_freezeOn_r4 ++ wsX2_freezeOn_r5)))) ++ wsX20)
def wsX2_cutOff : List Cond := .code yX2_cutOff cX2_cutOff 6 (some .int) :: ([.fieldLink RX2 30 "SaidInWinter$Cell" "layers" "I", .methodLink RX2 70 Lib.Math.min.name, .static Lib.Math.min.name, .initialized "java/lang/Math", .code Lib.Math.min.name Lib.Math.min.code 2 (some .int), .fieldLink RX2 21 "SaidInWinter$Cell" "thick" "[I", .methodLink RX2 38 yX2_thickAt, .instanceMethod yX2_thickAt, .selects RX2 yX2_thickAt yX2_thickAt, .initialized RX2, .code yX2_thickAt cX2_thickAt 2 (some .int), .methodLink RX2 34 yX2_has, .instanceMethod yX2_has, .selects RX2 yX2_has yX2_has, .code yX2_has cX2_has 2 (some .boolean)] ++ wsX20)
def wsX2_warmDay : List Cond := .code yX2_warmDay cX2_warmDay 2 (some .int) :: ([.fieldLink RX2 30 "SaidInWinter$Cell" "layers" "I", .methodLink RX2 70 Lib.Math.min.name, .static Lib.Math.min.name, .initialized "java/lang/Math", .code Lib.Math.min.name Lib.Math.min.code 2 (some .int), .methodLink RX2 34 yX2_has, .instanceMethod yX2_has, .selects RX2 yX2_has yX2_has, .initialized RX2, .code yX2_has cX2_has 2 (some .boolean), .methodLink RX2 67 yX2_meltsAt, .instanceMethod yX2_meltsAt, .selects RX2 yX2_meltsAt yX2_meltsAt, .code yX2_meltsAt cX2_meltsAt 2 (some .int), .fieldLink RX2 24 "SaidInWinter$Cell" "melts" "[I", .methodLink RX2 38 yX2_thickAt, .instanceMethod yX2_thickAt, .selects RX2 yX2_thickAt yX2_thickAt, .code yX2_thickAt cX2_thickAt 2 (some .int), .fieldLink RX2 21 "SaidInWinter$Cell" "thick" "[I", .methodLink RX2 75 yX2_cutOff, .instanceMethod yX2_cutOff, .selects RX2 yX2_cutOff yX2_cutOff, .code yX2_cutOff cX2_cutOff 6 (some .int)] ++ wsX20)
def wsX2_takeLayers : List Cond := .code yX2_takeLayers cX2_takeLayers 3 none :: ([.fieldLink RX2 30 "SaidInWinter$Cell" "layers" "I", .fieldLink RX2 9 "SaidInWinter$Cell" "kind" "[I", .fieldLink RX2 15 "SaidInWinter$Cell" "oath" "[I", .fieldLink RX2 18 "SaidInWinter$Cell" "frozenIn" "[I", .fieldLink RX2 21 "SaidInWinter$Cell" "thick" "[I", .fieldLink RX2 24 "SaidInWinter$Cell" "melts" "[I", .fieldLink RX2 27 "SaidInWinter$Cell" "light" "[I"] ++ wsX20)
def wsX2_topmostRead_r1 : List Cond := [Cond.fieldLink RX2 30 "SaidInWinter$Cell" "layers" "I", Cond.methodLink RX2 54 yX2_canRead, Cond.instanceMethod yX2_canRead, Cond.selects RX2 yX2_canRead yX2_canRead, Cond.initialized RX2, Cond.code yX2_canRead cX2_canRead 2 (some .boolean), Cond.methodLink RX2 34 yX2_has, Cond.instanceMethod yX2_has, Cond.selects RX2 yX2_has yX2_has, Cond.code yX2_has cX2_has 2 (some .boolean), Cond.methodLink RX2 42 yX2_depthAt, Cond.instanceMethod yX2_depthAt, Cond.selects RX2 yX2_depthAt yX2_depthAt, Cond.code yX2_depthAt cX2_depthAt 4 (some .int), Cond.methodLink RX2 38 yX2_thickAt, Cond.instanceMethod yX2_thickAt, Cond.selects RX2 yX2_thickAt yX2_thickAt, Cond.code yX2_thickAt cX2_thickAt 2 (some .int), Cond.fieldLink RX2 21 "SaidInWinter$Cell" "thick" "[I", Cond.methodLink RX2 45 yX2_lightAt, Cond.instanceMethod yX2_lightAt, Cond.selects RX2 yX2_lightAt yX2_lightAt, Cond.code yX2_lightAt cX2_lightAt 2 (some .int), Cond.fieldLink RX2 27 "SaidInWinter$Cell" "light" "[I"]
def wsX2_topmostRead_r2 : List Cond := [Cond.methodLink RX2 48 yX2_oathAt, Cond.instanceMethod yX2_oathAt, Cond.selects RX2 yX2_oathAt yX2_oathAt, Cond.code yX2_oathAt cX2_oathAt 2 (some .int), Cond.fieldLink RX2 15 "SaidInWinter$Cell" "oath" "[I"]
def wsX2_topmostRead : List Cond := .code yX2_topmostRead cX2_topmostRead 2 (some .int) :: ((wsX2_topmostRead_r1 ++ wsX2_topmostRead_r2) ++ wsX20)
def wsX2_oathsSeen_r1 : List Cond := [Cond.fieldLink RX2 30 "SaidInWinter$Cell" "layers" "I", Cond.methodLink RX2 78 Lib.Math.max.name, Cond.static Lib.Math.max.name, Cond.initialized "java/lang/Math", Cond.code Lib.Math.max.name Lib.Math.max.code 2 (some .int), Cond.methodLink RX2 38 yX2_thickAt, Cond.instanceMethod yX2_thickAt, Cond.selects RX2 yX2_thickAt yX2_thickAt, Cond.initialized RX2, Cond.code yX2_thickAt cX2_thickAt 2 (some .int), Cond.fieldLink RX2 21 "SaidInWinter$Cell" "thick" "[I", Cond.methodLink RX2 34 yX2_has, Cond.instanceMethod yX2_has, Cond.selects RX2 yX2_has yX2_has, Cond.code yX2_has cX2_has 2 (some .boolean), Cond.methodLink RX2 45 yX2_lightAt, Cond.instanceMethod yX2_lightAt, Cond.selects RX2 yX2_lightAt yX2_lightAt, Cond.code yX2_lightAt cX2_lightAt 2 (some .int), Cond.fieldLink RX2 27 "SaidInWinter$Cell" "light" "[I", Cond.methodLink RX2 48 yX2_oathAt, Cond.instanceMethod yX2_oathAt, Cond.selects RX2 yX2_oathAt yX2_oathAt, Cond.code yX2_oathAt cX2_oathAt 2 (some .int)]
def wsX2_oathsSeen_r2 : List Cond := [Cond.fieldLink RX2 15 "SaidInWinter$Cell" "oath" "[I"]
def wsX2_oathsSeen : List Cond := .code yX2_oathsSeen cX2_oathsSeen 6 (some .int) :: ((wsX2_oathsSeen_r1 ++ wsX2_oathsSeen_r2) ++ wsX20)
def wsX2_daysOf : List Cond := .code yX2_daysOf cX2_daysOf 5 (some .int) :: ([.fieldLink RX2 30 "SaidInWinter$Cell" "layers" "I", .methodLink RX2 78 Lib.Math.max.name, .static Lib.Math.max.name, .initialized "java/lang/Math", .code Lib.Math.max.name Lib.Math.max.code 2 (some .int), .methodLink RX2 67 yX2_meltsAt, .instanceMethod yX2_meltsAt, .selects RX2 yX2_meltsAt yX2_meltsAt, .initialized RX2, .code yX2_meltsAt cX2_meltsAt 2 (some .int), .fieldLink RX2 24 "SaidInWinter$Cell" "melts" "[I", .methodLink RX2 34 yX2_has, .instanceMethod yX2_has, .selects RX2 yX2_has yX2_has, .code yX2_has cX2_has 2 (some .boolean), .methodLink RX2 38 yX2_thickAt, .instanceMethod yX2_thickAt, .selects RX2 yX2_thickAt yX2_thickAt, .code yX2_thickAt cX2_thickAt 2 (some .int), .fieldLink RX2 21 "SaidInWinter$Cell" "thick" "[I"] ++ wsX20)
def wsX2_keepsOath_r1 : List Cond := [Cond.fieldLink RX2 30 "SaidInWinter$Cell" "layers" "I", Cond.methodLink RX2 48 yX2_oathAt, Cond.instanceMethod yX2_oathAt, Cond.selects RX2 yX2_oathAt yX2_oathAt, Cond.initialized RX2, Cond.code yX2_oathAt cX2_oathAt 2 (some .int), Cond.fieldLink RX2 15 "SaidInWinter$Cell" "oath" "[I", Cond.methodLink RX2 34 yX2_has, Cond.instanceMethod yX2_has, Cond.selects RX2 yX2_has yX2_has, Cond.code yX2_has cX2_has 2 (some .boolean), Cond.methodLink RX2 81 yX2_daysOf, Cond.instanceMethod yX2_daysOf, Cond.selects RX2 yX2_daysOf yX2_daysOf, Cond.code yX2_daysOf cX2_daysOf 5 (some .int), Cond.methodLink RX2 78 Lib.Math.max.name, Cond.static Lib.Math.max.name, Cond.initialized "java/lang/Math", Cond.code Lib.Math.max.name Lib.Math.max.code 2 (some .int), Cond.methodLink RX2 67 yX2_meltsAt, Cond.instanceMethod yX2_meltsAt, Cond.selects RX2 yX2_meltsAt yX2_meltsAt, Cond.code yX2_meltsAt cX2_meltsAt 2 (some .int), Cond.fieldLink RX2 24 "SaidInWinter$Cell" "melts" "[I"]
def wsX2_keepsOath_r2 : List Cond := [Cond.methodLink RX2 38 yX2_thickAt, Cond.instanceMethod yX2_thickAt, Cond.selects RX2 yX2_thickAt yX2_thickAt, Cond.code yX2_thickAt cX2_thickAt 2 (some .int), Cond.fieldLink RX2 21 "SaidInWinter$Cell" "thick" "[I"]
def wsX2_keepsOath : List Cond := .code yX2_keepsOath cX2_keepsOath 4 (some .boolean) :: ((wsX2_keepsOath_r1 ++ wsX2_keepsOath_r2) ++ wsX20)
def wsX2_layerBehind : List Cond := .code yX2_layerBehind cX2_layerBehind 4 (some .int) :: ([.fieldLink RX2 30 "SaidInWinter$Cell" "layers" "I", .methodLink RX2 38 yX2_thickAt, .instanceMethod yX2_thickAt, .selects RX2 yX2_thickAt yX2_thickAt, .initialized RX2, .code yX2_thickAt cX2_thickAt 2 (some .int), .fieldLink RX2 21 "SaidInWinter$Cell" "thick" "[I", .methodLink RX2 34 yX2_has, .instanceMethod yX2_has, .selects RX2 yX2_has yX2_has, .code yX2_has cX2_has 2 (some .boolean)] ++ wsX20)
def wsX2_lowestThickOf : List Cond := .code yX2_lowestThickOf cX2_lowestThickOf 3 (some .int) :: ([.fieldLink RX2 30 "SaidInWinter$Cell" "layers" "I", .methodLink RX2 51 yX2_winterAt, .instanceMethod yX2_winterAt, .selects RX2 yX2_winterAt yX2_winterAt, .initialized RX2, .code yX2_winterAt cX2_winterAt 2 (some .int), .fieldLink RX2 18 "SaidInWinter$Cell" "frozenIn" "[I", .methodLink RX2 34 yX2_has, .instanceMethod yX2_has, .selects RX2 yX2_has yX2_has, .code yX2_has cX2_has 2 (some .boolean), .methodLink RX2 38 yX2_thickAt, .instanceMethod yX2_thickAt, .selects RX2 yX2_thickAt yX2_thickAt, .code yX2_thickAt cX2_thickAt 2 (some .int), .fieldLink RX2 21 "SaidInWinter$Cell" "thick" "[I"] ++ wsX20)
def wsX2_unorderedPairs : List Cond := .code yX2_unorderedPairs cX2_unorderedPairs 3 (some .int) :: ([.fieldLink RX2 30 "SaidInWinter$Cell" "layers" "I", .methodLink RX2 51 yX2_winterAt, .instanceMethod yX2_winterAt, .selects RX2 yX2_winterAt yX2_winterAt, .initialized RX2, .code yX2_winterAt cX2_winterAt 2 (some .int), .fieldLink RX2 18 "SaidInWinter$Cell" "frozenIn" "[I", .methodLink RX2 34 yX2_has, .instanceMethod yX2_has, .selects RX2 yX2_has yX2_has, .code yX2_has cX2_has 2 (some .boolean)] ++ wsX20)
def wsX2_readableLayers : List Cond := .code yX2_readableLayers cX2_readableLayers 3 (some .int) :: ([.fieldLink RX2 30 "SaidInWinter$Cell" "layers" "I", .methodLink RX2 54 yX2_canRead, .instanceMethod yX2_canRead, .selects RX2 yX2_canRead yX2_canRead, .initialized RX2, .code yX2_canRead cX2_canRead 2 (some .boolean), .methodLink RX2 34 yX2_has, .instanceMethod yX2_has, .selects RX2 yX2_has yX2_has, .code yX2_has cX2_has 2 (some .boolean), .methodLink RX2 42 yX2_depthAt, .instanceMethod yX2_depthAt, .selects RX2 yX2_depthAt yX2_depthAt, .code yX2_depthAt cX2_depthAt 4 (some .int), .methodLink RX2 38 yX2_thickAt, .instanceMethod yX2_thickAt, .selects RX2 yX2_thickAt yX2_thickAt, .code yX2_thickAt cX2_thickAt 2 (some .int), .fieldLink RX2 21 "SaidInWinter$Cell" "thick" "[I", .methodLink RX2 45 yX2_lightAt, .instanceMethod yX2_lightAt, .selects RX2 yX2_lightAt yX2_lightAt, .code yX2_lightAt cX2_lightAt 2 (some .int), .fieldLink RX2 27 "SaidInWinter$Cell" "light" "[I"] ++ wsX20)
def wsX2_oaths : List Cond := .code yX2_oaths cX2_oaths 3 (some .int) :: ([.fieldLink RX2 30 "SaidInWinter$Cell" "layers" "I", .methodLink RX2 48 yX2_oathAt, .instanceMethod yX2_oathAt, .selects RX2 yX2_oathAt yX2_oathAt, .initialized RX2, .code yX2_oathAt cX2_oathAt 2 (some .int), .fieldLink RX2 15 "SaidInWinter$Cell" "oath" "[I", .methodLink RX2 34 yX2_has, .instanceMethod yX2_has, .selects RX2 yX2_has yX2_has, .code yX2_has cX2_has 2 (some .boolean)] ++ wsX20)
def wsX11_within : List Cond := .code yX11_within cX11_within 3 (some .boolean) :: ([])
def wsX2_tellAhead : List Cond := .code yX2_tellAhead cX2_tellAhead 5 none :: ([.fieldLink RX2 30 "SaidInWinter$Cell" "layers" "I", .methodLink RX2 48 yX2_oathAt, .instanceMethod yX2_oathAt, .selects RX2 yX2_oathAt yX2_oathAt, .initialized RX2, .code yX2_oathAt cX2_oathAt 2 (some .int), .fieldLink RX2 15 "SaidInWinter$Cell" "oath" "[I", .methodLink RX2 34 yX2_has, .instanceMethod yX2_has, .selects RX2 yX2_has yX2_has, .code yX2_has cX2_has 2 (some .boolean), .static yX11_within, .initialized RX11, .code yX11_within cX11_within 3 (some .boolean)] ++ wsX20)
def wsX10_init : List Cond := .code yX10_init cX10_init 1 none :: ([.instanceMethod yX7_init, .initialized RX7, .code yX7_init cX7_init 1 none, .methodLink RX7 1 objectInit, .instanceMethod objectInit, .code objectInit ⟨#[0xb1]⟩ 1 none])
def wsX4_init : List Cond := .code yX4_init cX4_init 1 none :: ([.instanceMethod yX10_init, .initialized RX10, .code yX10_init cX10_init 1 none, .instanceMethod yX7_init, .initialized RX7, .code yX7_init cX7_init 1 none, .methodLink RX7 1 objectInit, .instanceMethod objectInit, .code objectInit ⟨#[0xb1]⟩ 1 none])
def wsX10_tollWith : List Cond := .code yX10_tollWith cX10_tollWith 2 (some .int) :: ([.methodLink RX10 18 yX7_tollWith, .sameMethod "SaidInWinter$Layer" "SaidInWinter$Layer" "tollWith" "(I)I", .superclass RX10 RX7, .instanceMethod yX7_tollWith, .initialized RX7, .code yX7_tollWith cX7_tollWith 2 (some .int)])
def wsX4_tollWith : List Cond := .code yX4_tollWith cX4_tollWith 2 (some .int) :: ([.methodLink RX4 11 yX10_tollWith, .sameMethod "SaidInWinter$Snow" "SaidInWinter$Snow" "tollWith" "(I)I", .superclass RX4 RX10, .instanceMethod yX10_tollWith, .initialized RX10, .code yX10_tollWith cX10_tollWith 2 (some .int), .methodLink RX10 18 yX7_tollWith, .sameMethod "SaidInWinter$Layer" "SaidInWinter$Layer" "tollWith" "(I)I", .superclass RX10 RX7, .instanceMethod yX7_tollWith, .initialized RX7, .code yX7_tollWith cX7_tollWith 2 (some .int)])
def wsX5_init : List Cond := .code yX5_init cX5_init 1 none :: ([.instanceMethod yX7_init, .initialized RX7, .code yX7_init cX7_init 1 none, .methodLink RX7 1 objectInit, .instanceMethod objectInit, .code objectInit ⟨#[0xb1]⟩ 1 none])
def wsX5_tollWith : List Cond := .code yX5_tollWith cX5_tollWith 2 (some .int) :: ([.methodLink RX5 20 yX7_tollWith, .sameMethod "SaidInWinter$Layer" "SaidInWinter$Layer" "tollWith" "(I)I", .superclass RX5 RX7, .instanceMethod yX7_tollWith, .initialized RX7, .code yX7_tollWith cX7_tollWith 2 (some .int)])
def wsX5_fail : List Cond := .code yX5_fail cX5_fail 1 none :: ([])
def wsX6_init : List Cond := .code yX6_init cX6_init 3 none :: ([.methodLink RX6 3 objectInit, .instanceMethod objectInit, .code objectInit ⟨#[0xb1]⟩ 1 none, .classLink RX6 9 RX2, .fieldLink RX6 11 "SaidInWinter$Lake" "cells" "[LSaidInWinter$Cell;", .fieldLink RX6 17 "SaidInWinter$Lake" "kinds" "[LSaidInWinter$Layer;", .instantiable RX2 7, .initialized RX2, .instanceMethod yX2_init, .code yX2_init cX2_init 1 none, .methodLink RX2 3 objectInit, .arrayClass .int, .fieldLink RX2 9 "SaidInWinter$Cell" "kind" "[I", .fieldLink RX2 15 "SaidInWinter$Cell" "oath" "[I", .fieldLink RX2 18 "SaidInWinter$Cell" "frozenIn" "[I", .fieldLink RX2 21 "SaidInWinter$Cell" "thick" "[I", .fieldLink RX2 24 "SaidInWinter$Cell" "melts" "[I", .fieldLink RX2 27 "SaidInWinter$Cell" "light" "[I"] ++ wsX60 ++ wsX20)
def wsX6_cellAt : List Cond := .code yX6_cellAt cX6_cellAt 2 (some (.object "SaidInWinter$Cell")) :: ([.fieldLink RX6 11 "SaidInWinter$Lake" "cells" "[LSaidInWinter$Cell;", .static yX11_within, .initialized RX11, .code yX11_within cX11_within 3 (some .boolean)] ++ wsX60)
def wsX6_takeAll : List Cond := .code yX6_takeAll cX6_takeAll 3 none :: ([.fieldLink RX6 26 "SaidInWinter$Lake" "winter" "I", .fieldLink RX6 11 "SaidInWinter$Lake" "cells" "[LSaidInWinter$Cell;", .methodLink RX6 30 yX2_takeLayers, .instanceMethod yX2_takeLayers, .selects RX2 yX2_takeLayers yX2_takeLayers, .initialized RX2, .code yX2_takeLayers cX2_takeLayers 3 none, .fieldLink RX2 30 "SaidInWinter$Cell" "layers" "I", .fieldLink RX2 9 "SaidInWinter$Cell" "kind" "[I", .fieldLink RX2 15 "SaidInWinter$Cell" "oath" "[I", .fieldLink RX2 18 "SaidInWinter$Cell" "frozenIn" "[I", .fieldLink RX2 21 "SaidInWinter$Cell" "thick" "[I", .fieldLink RX2 24 "SaidInWinter$Cell" "melts" "[I", .fieldLink RX2 27 "SaidInWinter$Cell" "light" "[I"] ++ wsX60 ++ wsX20)
def wsX11_isKindAndOath : List Cond := .code yX11_isKindAndOath cX11_isKindAndOath 2 (some .boolean) :: ([.methodLink RX11 89 yX11_within, .static yX11_within, .initialized RX11, .code yX11_within cX11_within 3 (some .boolean)])
def wsX11_kindOf : List Cond := .code yX11_kindOf cX11_kindOf 2 (some (.object "SaidInWinter$Layer")) :: ([.methodLink RX11 89 yX11_within, .static yX11_within, .initialized RX11, .code yX11_within cX11_within 3 (some .boolean)])
def wsX6_freezeIn_r1 : List Cond := [Cond.fieldLink RX6 17 "SaidInWinter$Lake" "kinds" "[LSaidInWinter$Layer;", Cond.fieldLink RX6 26 "SaidInWinter$Lake" "winter" "I", Cond.methodLink RX6 34 yX6_cellAt, Cond.instanceMethod yX6_cellAt, Cond.selects RX6 yX6_cellAt yX6_cellAt, Cond.initialized RX6, Cond.code yX6_cellAt cX6_cellAt 2 (some (.object "SaidInWinter$Cell")), Cond.fieldLink RX6 11 "SaidInWinter$Lake" "cells" "[LSaidInWinter$Cell;", Cond.static yX11_within, Cond.initialized RX11, Cond.code yX11_within cX11_within 3 (some .boolean), Cond.static yX11_isKindAndOath, Cond.code yX11_isKindAndOath cX11_isKindAndOath 2 (some .boolean), Cond.methodLink RX11 89 yX11_within, Cond.static yX11_kindOf, Cond.code yX11_kindOf cX11_kindOf 2 (some (.object "SaidInWinter$Layer")), Cond.methodLink RX6 46 yX2_freezeOn, Cond.instanceMethod yX2_freezeOn, Cond.selects RX2 yX2_freezeOn yX2_freezeOn, Cond.initialized RX2, Cond.code yX2_freezeOn cX2_freezeOn 7 (some .int), Cond.fieldLink RX2 30 "SaidInWinter$Cell" "layers" "I", Cond.fieldLink RX2 9 "SaidInWinter$Cell" "kind" "[I", Cond.fieldLink RX2 15 "SaidInWinter$Cell" "oath" "[I"]
def wsX6_freezeIn_r2 : List Cond := [Cond.fieldLink RX2 18 "SaidInWinter$Cell" "frozenIn" "[I", Cond.fieldLink RX2 21 "SaidInWinter$Cell" "thick" "[I", Cond.fieldLink RX2 24 "SaidInWinter$Cell" "melts" "[I", Cond.fieldLink RX2 27 "SaidInWinter$Cell" "light" "[I", Cond.methodLink RX2 57 ⟨"SaidInWinter$Layer", "fingersIn", "(II)I"⟩, Cond.sameMethod "SaidInWinter$Layer" "SaidInWinter$Layer" "fingersIn" "(II)I", Cond.instanceMethod ⟨"SaidInWinter$Layer", "fingersIn", "(II)I"⟩, Cond.selects RX0 ⟨"SaidInWinter$Layer", "fingersIn", "(II)I"⟩ yX0_fingersIn, Cond.instanceMethod yX0_fingersIn, Cond.initialized RX0, Cond.code yX0_fingersIn cX0_fingersIn 3 (some .int), Cond.methodLink RX0 7 yX3_fingersIn, Cond.sameMethod "SaidInWinter$Clear" "SaidInWinter$Clear" "fingersIn" "(II)I", Cond.superclass RX0 RX3, Cond.instanceMethod yX3_fingersIn, Cond.initialized RX3, Cond.code yX3_fingersIn cX3_fingersIn 3 (some .int), Cond.methodLink RX3 7 yX7_fingersIn, Cond.superclass RX3 RX7, Cond.instanceMethod yX7_fingersIn, Cond.initialized RX7, Cond.code yX7_fingersIn cX7_fingersIn 3 (some .int), Cond.selects RX1 ⟨"SaidInWinter$Layer", "fingersIn", "(II)I"⟩ yX3_fingersIn, Cond.selects RX3 ⟨"SaidInWinter$Layer", "fingersIn", "(II)I"⟩ yX3_fingersIn]
def wsX6_freezeIn_r3 : List Cond := [Cond.selects RX4 ⟨"SaidInWinter$Layer", "fingersIn", "(II)I"⟩ yX10_fingersIn, Cond.instanceMethod yX10_fingersIn, Cond.initialized RX10, Cond.code yX10_fingersIn cX10_fingersIn 3 (some .int), Cond.methodLink RX10 7 yX7_fingersIn, Cond.superclass RX10 RX7, Cond.selects RX5 ⟨"SaidInWinter$Layer", "fingersIn", "(II)I"⟩ yX5_fingersIn, Cond.instanceMethod yX5_fingersIn, Cond.initialized RX5, Cond.code yX5_fingersIn cX5_fingersIn 3 (some .int), Cond.methodLink RX5 11 Lib.Math.max.name, Cond.static Lib.Math.max.name, Cond.initialized "java/lang/Math", Cond.code Lib.Math.max.name Lib.Math.max.code 2 (some .int), Cond.methodLink RX5 7 yX7_fingersIn, Cond.superclass RX5 RX7, Cond.methodLink RX2 57 yX7_fingersIn, Cond.selects RX7 yX7_fingersIn yX7_fingersIn, Cond.selects RX8 ⟨"SaidInWinter$Layer", "fingersIn", "(II)I"⟩ yX8_fingersIn, Cond.instanceMethod yX8_fingersIn, Cond.initialized RX8, Cond.code yX8_fingersIn cX8_fingersIn 3 (some .int), Cond.methodLink RX8 7 yX10_fingersIn, Cond.sameMethod "SaidInWinter$Snow" "SaidInWinter$Snow" "fingersIn" "(II)I"]
def wsX6_freezeIn_r4 : List Cond := [Cond.superclass RX8 RX10, Cond.selects RX10 ⟨"SaidInWinter$Layer", "fingersIn", "(II)I"⟩ yX10_fingersIn, Cond.methodLink RX2 63 ⟨"SaidInWinter$Layer", "melts", "(I)I"⟩, Cond.sameMethod "SaidInWinter$Layer" "SaidInWinter$Layer" "melts" "(I)I", Cond.instanceMethod ⟨"SaidInWinter$Layer", "melts", "(I)I"⟩, Cond.selects RX0 ⟨"SaidInWinter$Layer", "melts", "(I)I"⟩ yX3_melts, Cond.instanceMethod yX3_melts, Cond.code yX3_melts cX3_melts 2 (some .int), Cond.methodLink RX3 11 yX7_melts, Cond.instanceMethod yX7_melts, Cond.code yX7_melts cX7_melts 2 (some .int), Cond.selects RX1 ⟨"SaidInWinter$Layer", "melts", "(I)I"⟩ yX1_melts, Cond.instanceMethod yX1_melts, Cond.initialized RX1, Cond.code yX1_melts cX1_melts 2 (some .int), Cond.methodLink RX1 7 yX3_melts, Cond.sameMethod "SaidInWinter$Clear" "SaidInWinter$Clear" "melts" "(I)I", Cond.superclass RX1 RX3, Cond.selects RX3 ⟨"SaidInWinter$Layer", "melts", "(I)I"⟩ yX3_melts, Cond.selects RX4 ⟨"SaidInWinter$Layer", "melts", "(I)I"⟩ yX4_melts, Cond.instanceMethod yX4_melts, Cond.initialized RX4, Cond.code yX4_melts cX4_melts 2 (some .int), Cond.methodLink RX4 7 yX10_melts]
def wsX6_freezeIn_r5 : List Cond := [Cond.sameMethod "SaidInWinter$Snow" "SaidInWinter$Snow" "melts" "(I)I", Cond.superclass RX4 RX10, Cond.instanceMethod yX10_melts, Cond.code yX10_melts cX10_melts 2 (some .int), Cond.methodLink RX10 11 yX7_melts, Cond.selects RX5 ⟨"SaidInWinter$Layer", "melts", "(I)I"⟩ yX5_melts, Cond.instanceMethod yX5_melts, Cond.code yX5_melts cX5_melts 2 (some .int), Cond.methodLink RX5 16 yX7_melts, Cond.methodLink RX2 63 yX7_melts, Cond.selects RX7 yX7_melts yX7_melts, Cond.selects RX8 ⟨"SaidInWinter$Layer", "melts", "(I)I"⟩ yX8_melts, Cond.instanceMethod yX8_melts, Cond.code yX8_melts cX8_melts 2 (some .int), Cond.methodLink RX8 11 yX10_melts, Cond.selects RX10 ⟨"SaidInWinter$Layer", "melts", "(I)I"⟩ yX10_melts, Cond.methodLink RX2 65 ⟨"SaidInWinter$Layer", "light", "(I)I"⟩, Cond.sameMethod "SaidInWinter$Layer" "SaidInWinter$Layer" "light" "(I)I", Cond.instanceMethod ⟨"SaidInWinter$Layer", "light", "(I)I"⟩, Cond.selects RX0 ⟨"SaidInWinter$Layer", "light", "(I)I"⟩ yX0_light, Cond.instanceMethod yX0_light, Cond.code yX0_light cX0_light 2 (some .int), Cond.methodLink RX0 11 yX3_light, Cond.sameMethod "SaidInWinter$Clear" "SaidInWinter$Clear" "light" "(I)I"]
def wsX6_freezeIn_r6 : List Cond := [Cond.instanceMethod yX3_light, Cond.code yX3_light cX3_light 2 (some .int), Cond.methodLink RX3 15 yX7_light, Cond.instanceMethod yX7_light, Cond.code yX7_light cX7_light 2 (some .int), Cond.selects RX1 ⟨"SaidInWinter$Layer", "light", "(I)I"⟩ yX1_light, Cond.instanceMethod yX1_light, Cond.code yX1_light cX1_light 2 (some .int), Cond.methodLink RX1 11 yX3_light, Cond.selects RX3 ⟨"SaidInWinter$Layer", "light", "(I)I"⟩ yX3_light, Cond.selects RX4 ⟨"SaidInWinter$Layer", "light", "(I)I"⟩ yX4_light, Cond.instanceMethod yX4_light, Cond.code yX4_light cX4_light 2 (some .int), Cond.selects RX5 ⟨"SaidInWinter$Layer", "light", "(I)I"⟩ yX7_light, Cond.methodLink RX2 65 yX7_light, Cond.selects RX7 yX7_light yX7_light, Cond.selects RX8 ⟨"SaidInWinter$Layer", "light", "(I)I"⟩ yX10_light, Cond.instanceMethod yX10_light, Cond.code yX10_light cX10_light 2 (some .int), Cond.methodLink RX10 15 yX7_light, Cond.selects RX10 ⟨"SaidInWinter$Layer", "light", "(I)I"⟩ yX10_light]
def wsX6_freezeIn : List Cond := .code yX6_freezeIn cX6_freezeIn 6 (some .int) :: ((wsX6_freezeIn_r1 ++ (wsX6_freezeIn_r2 ++ (wsX6_freezeIn_r3 ++ (wsX6_freezeIn_r4 ++ (wsX6_freezeIn_r5 ++ wsX6_freezeIn_r6))))) ++ wsX60 ++ wsX20)
def wsX6_thawFor_r1 : List Cond := [Cond.fieldLink RX6 11 "SaidInWinter$Lake" "cells" "[LSaidInWinter$Cell;", Cond.static yX11_within, Cond.initialized RX11, Cond.code yX11_within cX11_within 3 (some .boolean), Cond.methodLink RX6 53 yX2_warmDay, Cond.instanceMethod yX2_warmDay, Cond.selects RX2 yX2_warmDay yX2_warmDay, Cond.initialized RX2, Cond.code yX2_warmDay cX2_warmDay 2 (some .int), Cond.fieldLink RX2 30 "SaidInWinter$Cell" "layers" "I", Cond.methodLink RX2 70 Lib.Math.min.name, Cond.static Lib.Math.min.name, Cond.initialized "java/lang/Math", Cond.code Lib.Math.min.name Lib.Math.min.code 2 (some .int), Cond.methodLink RX2 34 yX2_has, Cond.instanceMethod yX2_has, Cond.selects RX2 yX2_has yX2_has, Cond.code yX2_has cX2_has 2 (some .boolean), Cond.methodLink RX2 67 yX2_meltsAt, Cond.instanceMethod yX2_meltsAt, Cond.selects RX2 yX2_meltsAt yX2_meltsAt, Cond.code yX2_meltsAt cX2_meltsAt 2 (some .int), Cond.fieldLink RX2 24 "SaidInWinter$Cell" "melts" "[I", Cond.methodLink RX2 38 yX2_thickAt]
def wsX6_thawFor_r2 : List Cond := [Cond.instanceMethod yX2_thickAt, Cond.selects RX2 yX2_thickAt yX2_thickAt, Cond.code yX2_thickAt cX2_thickAt 2 (some .int), Cond.fieldLink RX2 21 "SaidInWinter$Cell" "thick" "[I", Cond.methodLink RX2 75 yX2_cutOff, Cond.instanceMethod yX2_cutOff, Cond.selects RX2 yX2_cutOff yX2_cutOff, Cond.code yX2_cutOff cX2_cutOff 6 (some .int)]
def wsX6_thawFor : List Cond := .code yX6_thawFor cX6_thawFor 8 (some .int) :: ((wsX6_thawFor_r1 ++ wsX6_thawFor_r2) ++ wsX60 ++ wsX20)
def wsX6_cutIn_r1 : List Cond := [Cond.methodLink RX6 34 yX6_cellAt, Cond.instanceMethod yX6_cellAt, Cond.selects RX6 yX6_cellAt yX6_cellAt, Cond.initialized RX6, Cond.code yX6_cellAt cX6_cellAt 2 (some (.object "SaidInWinter$Cell")), Cond.fieldLink RX6 11 "SaidInWinter$Lake" "cells" "[LSaidInWinter$Cell;", Cond.static yX11_within, Cond.initialized RX11, Cond.code yX11_within cX11_within 3 (some .boolean), Cond.methodLink RX6 57 yX2_cutOff, Cond.instanceMethod yX2_cutOff, Cond.selects RX2 yX2_cutOff yX2_cutOff, Cond.initialized RX2, Cond.code yX2_cutOff cX2_cutOff 6 (some .int), Cond.fieldLink RX2 30 "SaidInWinter$Cell" "layers" "I", Cond.methodLink RX2 70 Lib.Math.min.name, Cond.static Lib.Math.min.name, Cond.initialized "java/lang/Math", Cond.code Lib.Math.min.name Lib.Math.min.code 2 (some .int), Cond.fieldLink RX2 21 "SaidInWinter$Cell" "thick" "[I", Cond.methodLink RX2 38 yX2_thickAt, Cond.instanceMethod yX2_thickAt, Cond.selects RX2 yX2_thickAt yX2_thickAt, Cond.code yX2_thickAt cX2_thickAt 2 (some .int)]
def wsX6_cutIn_r2 : List Cond := [Cond.methodLink RX2 34 yX2_has, Cond.instanceMethod yX2_has, Cond.selects RX2 yX2_has yX2_has, Cond.code yX2_has cX2_has 2 (some .boolean)]
def wsX6_cutIn : List Cond := .code yX6_cutIn cX6_cutIn 4 (some .int) :: ((wsX6_cutIn_r1 ++ wsX6_cutIn_r2) ++ wsX60 ++ wsX20)
def wsX6_driftOn : List Cond := .code yX6_driftOn cX6_driftOn 3 (some .int) :: ([.fieldLink RX6 11 "SaidInWinter$Lake" "cells" "[LSaidInWinter$Cell;"] ++ wsX60 ++ wsX20)
def wsX6_nextWinter : List Cond := .code yX6_nextWinter cX6_nextWinter 1 (some .int) :: ([.fieldLink RX6 26 "SaidInWinter$Lake" "winter" "I"] ++ wsX60)
def wsX6_allLayers : List Cond := .code yX6_allLayers cX6_allLayers 6 (some .int) :: ([.fieldLink RX6 11 "SaidInWinter$Lake" "cells" "[LSaidInWinter$Cell;"] ++ wsX60 ++ wsX20)
def wsX6_allIce : List Cond := .code yX6_allIce cX6_allIce 6 (some .int) :: ([.fieldLink RX6 11 "SaidInWinter$Lake" "cells" "[LSaidInWinter$Cell;", .methodLink RX6 61 yX2_ice, .instanceMethod yX2_ice, .selects RX2 yX2_ice yX2_ice, .initialized RX2, .code yX2_ice cX2_ice 1 (some .int), .methodLink RX2 42 yX2_depthAt, .instanceMethod yX2_depthAt, .selects RX2 yX2_depthAt yX2_depthAt, .code yX2_depthAt cX2_depthAt 4 (some .int), .fieldLink RX2 30 "SaidInWinter$Cell" "layers" "I", .methodLink RX2 38 yX2_thickAt, .instanceMethod yX2_thickAt, .selects RX2 yX2_thickAt yX2_thickAt, .code yX2_thickAt cX2_thickAt 2 (some .int), .fieldLink RX2 21 "SaidInWinter$Cell" "thick" "[I", .methodLink RX2 34 yX2_has, .instanceMethod yX2_has, .selects RX2 yX2_has yX2_has, .code yX2_has cX2_has 2 (some .boolean)] ++ wsX60 ++ wsX20)
def wsX6_allReadable_r1 : List Cond := [Cond.fieldLink RX6 11 "SaidInWinter$Lake" "cells" "[LSaidInWinter$Cell;", Cond.methodLink RX6 64 yX2_readableLayers, Cond.instanceMethod yX2_readableLayers, Cond.selects RX2 yX2_readableLayers yX2_readableLayers, Cond.initialized RX2, Cond.code yX2_readableLayers cX2_readableLayers 3 (some .int), Cond.fieldLink RX2 30 "SaidInWinter$Cell" "layers" "I", Cond.methodLink RX2 54 yX2_canRead, Cond.instanceMethod yX2_canRead, Cond.selects RX2 yX2_canRead yX2_canRead, Cond.code yX2_canRead cX2_canRead 2 (some .boolean), Cond.methodLink RX2 34 yX2_has, Cond.instanceMethod yX2_has, Cond.selects RX2 yX2_has yX2_has, Cond.code yX2_has cX2_has 2 (some .boolean), Cond.methodLink RX2 42 yX2_depthAt, Cond.instanceMethod yX2_depthAt, Cond.selects RX2 yX2_depthAt yX2_depthAt, Cond.code yX2_depthAt cX2_depthAt 4 (some .int), Cond.methodLink RX2 38 yX2_thickAt, Cond.instanceMethod yX2_thickAt, Cond.selects RX2 yX2_thickAt yX2_thickAt, Cond.code yX2_thickAt cX2_thickAt 2 (some .int), Cond.fieldLink RX2 21 "SaidInWinter$Cell" "thick" "[I"]
def wsX6_allReadable_r2 : List Cond := [Cond.methodLink RX2 45 yX2_lightAt, Cond.instanceMethod yX2_lightAt, Cond.selects RX2 yX2_lightAt yX2_lightAt, Cond.code yX2_lightAt cX2_lightAt 2 (some .int), Cond.fieldLink RX2 27 "SaidInWinter$Cell" "light" "[I"]
def wsX6_allReadable : List Cond := .code yX6_allReadable cX6_allReadable 6 (some .int) :: ((wsX6_allReadable_r1 ++ wsX6_allReadable_r2) ++ wsX60 ++ wsX20)
def wsX6_allOaths : List Cond := .code yX6_allOaths cX6_allOaths 6 (some .int) :: ([.fieldLink RX6 11 "SaidInWinter$Lake" "cells" "[LSaidInWinter$Cell;", .methodLink RX6 67 yX2_oaths, .instanceMethod yX2_oaths, .selects RX2 yX2_oaths yX2_oaths, .initialized RX2, .code yX2_oaths cX2_oaths 3 (some .int), .fieldLink RX2 30 "SaidInWinter$Cell" "layers" "I", .methodLink RX2 48 yX2_oathAt, .instanceMethod yX2_oathAt, .selects RX2 yX2_oathAt yX2_oathAt, .code yX2_oathAt cX2_oathAt 2 (some .int), .fieldLink RX2 15 "SaidInWinter$Cell" "oath" "[I", .methodLink RX2 34 yX2_has, .instanceMethod yX2_has, .selects RX2 yX2_has yX2_has, .code yX2_has cX2_has 2 (some .boolean)] ++ wsX60 ++ wsX20)
def wsX6_allUnordered : List Cond := .code yX6_allUnordered cX6_allUnordered 6 (some .int) :: ([.fieldLink RX6 11 "SaidInWinter$Lake" "cells" "[LSaidInWinter$Cell;", .methodLink RX6 70 yX2_unorderedPairs, .instanceMethod yX2_unorderedPairs, .selects RX2 yX2_unorderedPairs yX2_unorderedPairs, .initialized RX2, .code yX2_unorderedPairs cX2_unorderedPairs 3 (some .int), .fieldLink RX2 30 "SaidInWinter$Cell" "layers" "I", .methodLink RX2 51 yX2_winterAt, .instanceMethod yX2_winterAt, .selects RX2 yX2_winterAt yX2_winterAt, .code yX2_winterAt cX2_winterAt 2 (some .int), .fieldLink RX2 18 "SaidInWinter$Cell" "frozenIn" "[I", .methodLink RX2 34 yX2_has, .instanceMethod yX2_has, .selects RX2 yX2_has yX2_has, .code yX2_has cX2_has 2 (some .boolean)] ++ wsX60 ++ wsX20)
def wsX6_latestOf : List Cond := .code yX6_latestOf cX6_latestOf 7 (some .int) :: ([.fieldLink RX6 11 "SaidInWinter$Lake" "cells" "[LSaidInWinter$Cell;", .methodLink RX6 73 yX2_oathAt, .instanceMethod yX2_oathAt, .selects RX2 yX2_oathAt yX2_oathAt, .initialized RX2, .code yX2_oathAt cX2_oathAt 2 (some .int), .fieldLink RX2 15 "SaidInWinter$Cell" "oath" "[I", .methodLink RX2 34 yX2_has, .instanceMethod yX2_has, .selects RX2 yX2_has yX2_has, .code yX2_has cX2_has 2 (some .boolean), .fieldLink RX2 30 "SaidInWinter$Cell" "layers" "I", .methodLink RX6 76 yX2_winterAt, .instanceMethod yX2_winterAt, .selects RX2 yX2_winterAt yX2_winterAt, .code yX2_winterAt cX2_winterAt 2 (some .int), .fieldLink RX2 18 "SaidInWinter$Cell" "frozenIn" "[I"] ++ wsX60 ++ wsX20)
def wsX6_tellSeen_r1 : List Cond := [Cond.fieldLink RX6 11 "SaidInWinter$Lake" "cells" "[LSaidInWinter$Cell;", Cond.methodLink RX6 79 yX2_oathsSeen, Cond.instanceMethod yX2_oathsSeen, Cond.selects RX2 yX2_oathsSeen yX2_oathsSeen, Cond.initialized RX2, Cond.code yX2_oathsSeen cX2_oathsSeen 6 (some .int), Cond.fieldLink RX2 30 "SaidInWinter$Cell" "layers" "I", Cond.methodLink RX2 78 Lib.Math.max.name, Cond.static Lib.Math.max.name, Cond.initialized "java/lang/Math", Cond.code Lib.Math.max.name Lib.Math.max.code 2 (some .int), Cond.methodLink RX2 38 yX2_thickAt, Cond.instanceMethod yX2_thickAt, Cond.selects RX2 yX2_thickAt yX2_thickAt, Cond.code yX2_thickAt cX2_thickAt 2 (some .int), Cond.fieldLink RX2 21 "SaidInWinter$Cell" "thick" "[I", Cond.methodLink RX2 34 yX2_has, Cond.instanceMethod yX2_has, Cond.selects RX2 yX2_has yX2_has, Cond.code yX2_has cX2_has 2 (some .boolean), Cond.methodLink RX2 45 yX2_lightAt, Cond.instanceMethod yX2_lightAt, Cond.selects RX2 yX2_lightAt yX2_lightAt, Cond.code yX2_lightAt cX2_lightAt 2 (some .int)]
def wsX6_tellSeen_r2 : List Cond := [Cond.fieldLink RX2 27 "SaidInWinter$Cell" "light" "[I", Cond.methodLink RX2 48 yX2_oathAt, Cond.instanceMethod yX2_oathAt, Cond.selects RX2 yX2_oathAt yX2_oathAt, Cond.code yX2_oathAt cX2_oathAt 2 (some .int), Cond.fieldLink RX2 15 "SaidInWinter$Cell" "oath" "[I"]
def wsX6_tellSeen : List Cond := .code yX6_tellSeen cX6_tellSeen 4 none :: ((wsX6_tellSeen_r1 ++ wsX6_tellSeen_r2) ++ wsX60 ++ wsX20)
def wsX6_cellsWith_r1 : List Cond := [Cond.fieldLink RX6 11 "SaidInWinter$Lake" "cells" "[LSaidInWinter$Cell;", Cond.methodLink RX6 82 yX2_keepsOath, Cond.instanceMethod yX2_keepsOath, Cond.selects RX2 yX2_keepsOath yX2_keepsOath, Cond.initialized RX2, Cond.code yX2_keepsOath cX2_keepsOath 4 (some .boolean), Cond.fieldLink RX2 30 "SaidInWinter$Cell" "layers" "I", Cond.methodLink RX2 48 yX2_oathAt, Cond.instanceMethod yX2_oathAt, Cond.selects RX2 yX2_oathAt yX2_oathAt, Cond.code yX2_oathAt cX2_oathAt 2 (some .int), Cond.fieldLink RX2 15 "SaidInWinter$Cell" "oath" "[I", Cond.methodLink RX2 34 yX2_has, Cond.instanceMethod yX2_has, Cond.selects RX2 yX2_has yX2_has, Cond.code yX2_has cX2_has 2 (some .boolean), Cond.methodLink RX2 81 yX2_daysOf, Cond.instanceMethod yX2_daysOf, Cond.selects RX2 yX2_daysOf yX2_daysOf, Cond.code yX2_daysOf cX2_daysOf 5 (some .int), Cond.methodLink RX2 78 Lib.Math.max.name, Cond.static Lib.Math.max.name, Cond.initialized "java/lang/Math", Cond.code Lib.Math.max.name Lib.Math.max.code 2 (some .int)]
def wsX6_cellsWith_r2 : List Cond := [Cond.methodLink RX2 67 yX2_meltsAt, Cond.instanceMethod yX2_meltsAt, Cond.selects RX2 yX2_meltsAt yX2_meltsAt, Cond.code yX2_meltsAt cX2_meltsAt 2 (some .int), Cond.fieldLink RX2 24 "SaidInWinter$Cell" "melts" "[I", Cond.methodLink RX2 38 yX2_thickAt, Cond.instanceMethod yX2_thickAt, Cond.selects RX2 yX2_thickAt yX2_thickAt, Cond.code yX2_thickAt cX2_thickAt 2 (some .int), Cond.fieldLink RX2 21 "SaidInWinter$Cell" "thick" "[I"]
def wsX6_cellsWith : List Cond := .code yX6_cellsWith cX6_cellsWith 5 (some .int) :: ((wsX6_cellsWith_r1 ++ wsX6_cellsWith_r2) ++ wsX60 ++ wsX20)
def wsX6_isThin : List Cond := .code yX6_isThin cX6_isThin 8 (some .boolean) :: ([.fieldLink RX6 11 "SaidInWinter$Lake" "cells" "[LSaidInWinter$Cell;", .methodLink RX6 76 yX2_winterAt, .instanceMethod yX2_winterAt, .selects RX2 yX2_winterAt yX2_winterAt, .initialized RX2, .code yX2_winterAt cX2_winterAt 2 (some .int), .fieldLink RX2 18 "SaidInWinter$Cell" "frozenIn" "[I", .methodLink RX2 34 yX2_has, .instanceMethod yX2_has, .selects RX2 yX2_has yX2_has, .code yX2_has cX2_has 2 (some .boolean), .fieldLink RX2 30 "SaidInWinter$Cell" "layers" "I", .methodLink RX6 85 yX2_thickAt, .instanceMethod yX2_thickAt, .selects RX2 yX2_thickAt yX2_thickAt, .code yX2_thickAt cX2_thickAt 2 (some .int), .fieldLink RX2 21 "SaidInWinter$Cell" "thick" "[I", .methodLink RX6 88 yX2_lowestThickOf, .instanceMethod yX2_lowestThickOf, .selects RX2 yX2_lowestThickOf yX2_lowestThickOf, .code yX2_lowestThickOf cX2_lowestThickOf 3 (some .int), .methodLink RX2 51 yX2_winterAt, .methodLink RX2 38 yX2_thickAt] ++ wsX60 ++ wsX20)
def wsX6_thinLayers_r1 : List Cond := [Cond.fieldLink RX6 11 "SaidInWinter$Lake" "cells" "[LSaidInWinter$Cell;", Cond.methodLink RX6 91 yX6_isThin, Cond.instanceMethod yX6_isThin, Cond.selects RX6 yX6_isThin yX6_isThin, Cond.initialized RX6, Cond.code yX6_isThin cX6_isThin 8 (some .boolean), Cond.methodLink RX6 76 yX2_winterAt, Cond.instanceMethod yX2_winterAt, Cond.selects RX2 yX2_winterAt yX2_winterAt, Cond.initialized RX2, Cond.code yX2_winterAt cX2_winterAt 2 (some .int), Cond.fieldLink RX2 18 "SaidInWinter$Cell" "frozenIn" "[I", Cond.methodLink RX2 34 yX2_has, Cond.instanceMethod yX2_has, Cond.selects RX2 yX2_has yX2_has, Cond.code yX2_has cX2_has 2 (some .boolean), Cond.fieldLink RX2 30 "SaidInWinter$Cell" "layers" "I", Cond.methodLink RX6 85 yX2_thickAt, Cond.instanceMethod yX2_thickAt, Cond.selects RX2 yX2_thickAt yX2_thickAt, Cond.code yX2_thickAt cX2_thickAt 2 (some .int), Cond.fieldLink RX2 21 "SaidInWinter$Cell" "thick" "[I", Cond.methodLink RX6 88 yX2_lowestThickOf, Cond.instanceMethod yX2_lowestThickOf]
def wsX6_thinLayers_r2 : List Cond := [Cond.selects RX2 yX2_lowestThickOf yX2_lowestThickOf, Cond.code yX2_lowestThickOf cX2_lowestThickOf 3 (some .int), Cond.methodLink RX2 51 yX2_winterAt, Cond.methodLink RX2 38 yX2_thickAt]
def wsX6_thinLayers : List Cond := .code yX6_thinLayers cX6_thinLayers 4 (some .int) :: ((wsX6_thinLayers_r1 ++ wsX6_thinLayers_r2) ++ wsX60 ++ wsX20)
def wsX6_firstThin_r1 : List Cond := [Cond.fieldLink RX6 11 "SaidInWinter$Lake" "cells" "[LSaidInWinter$Cell;", Cond.methodLink RX6 91 yX6_isThin, Cond.instanceMethod yX6_isThin, Cond.selects RX6 yX6_isThin yX6_isThin, Cond.initialized RX6, Cond.code yX6_isThin cX6_isThin 8 (some .boolean), Cond.methodLink RX6 76 yX2_winterAt, Cond.instanceMethod yX2_winterAt, Cond.selects RX2 yX2_winterAt yX2_winterAt, Cond.initialized RX2, Cond.code yX2_winterAt cX2_winterAt 2 (some .int), Cond.fieldLink RX2 18 "SaidInWinter$Cell" "frozenIn" "[I", Cond.methodLink RX2 34 yX2_has, Cond.instanceMethod yX2_has, Cond.selects RX2 yX2_has yX2_has, Cond.code yX2_has cX2_has 2 (some .boolean), Cond.fieldLink RX2 30 "SaidInWinter$Cell" "layers" "I", Cond.methodLink RX6 85 yX2_thickAt, Cond.instanceMethod yX2_thickAt, Cond.selects RX2 yX2_thickAt yX2_thickAt, Cond.code yX2_thickAt cX2_thickAt 2 (some .int), Cond.fieldLink RX2 21 "SaidInWinter$Cell" "thick" "[I", Cond.methodLink RX6 88 yX2_lowestThickOf, Cond.instanceMethod yX2_lowestThickOf]
def wsX6_firstThin_r2 : List Cond := [Cond.selects RX2 yX2_lowestThickOf yX2_lowestThickOf, Cond.code yX2_lowestThickOf cX2_lowestThickOf 3 (some .int), Cond.methodLink RX2 51 yX2_winterAt, Cond.methodLink RX2 38 yX2_thickAt]
def wsX6_firstThin : List Cond := .code yX6_firstThin cX6_firstThin 3 (some .int) :: ((wsX6_firstThin_r1 ++ wsX6_firstThin_r2) ++ wsX60 ++ wsX20)
def wsJ7_fill_53178 : List Cond := .code yJ7_fill_53178 cJ7_fill_53178 4 none :: ([])
def wsX6_tellAllAhead : List Cond := .code yX6_tellAllAhead cX6_tellAllAhead 6 none :: ([.fieldLink RX6 11 "SaidInWinter$Lake" "cells" "[LSaidInWinter$Cell;", .methodLink RX6 94 yJ7_fill_53178, .static yJ7_fill_53178, .initialized RJ7, .code yJ7_fill_53178 cJ7_fill_53178 4 none, .methodLink RX6 100 yX2_tellAhead, .instanceMethod yX2_tellAhead, .selects RX2 yX2_tellAhead yX2_tellAhead, .initialized RX2, .code yX2_tellAhead cX2_tellAhead 5 none, .fieldLink RX2 30 "SaidInWinter$Cell" "layers" "I", .methodLink RX2 48 yX2_oathAt, .instanceMethod yX2_oathAt, .selects RX2 yX2_oathAt yX2_oathAt, .code yX2_oathAt cX2_oathAt 2 (some .int), .fieldLink RX2 15 "SaidInWinter$Cell" "oath" "[I", .methodLink RX2 34 yX2_has, .instanceMethod yX2_has, .selects RX2 yX2_has yX2_has, .code yX2_has cX2_has 2 (some .boolean), .static yX11_within, .initialized RX11, .code yX11_within cX11_within 3 (some .boolean)] ++ wsX60 ++ wsX20)
def wsX7_fail : List Cond := .code yX7_fail cX7_fail 1 none :: ([.classLink RX7 7 "java/lang/IllegalStateException", .initialized "java/lang/IllegalStateException"] ++ (vx_atS RX7 11 "java/lang/IllegalStateException" ["java/lang/RuntimeException", "java/lang/Exception"]).filter goodWord)
def wsX8_init : List Cond := .code yX8_init cX8_init 1 none :: ([.instanceMethod yX10_init, .initialized RX10, .code yX10_init cX10_init 1 none, .instanceMethod yX7_init, .initialized RX7, .code yX7_init cX7_init 1 none, .methodLink RX7 1 objectInit, .instanceMethod objectInit, .code objectInit ⟨#[0xb1]⟩ 1 none])
def wsX8_tollWith : List Cond := .code yX8_tollWith cX8_tollWith 2 (some .int) :: ([.methodLink RX8 15 yX10_tollWith, .sameMethod "SaidInWinter$Snow" "SaidInWinter$Snow" "tollWith" "(I)I", .superclass RX8 RX10, .instanceMethod yX10_tollWith, .initialized RX10, .code yX10_tollWith cX10_tollWith 2 (some .int), .methodLink RX10 18 yX7_tollWith, .sameMethod "SaidInWinter$Layer" "SaidInWinter$Layer" "tollWith" "(I)I", .superclass RX10 RX7, .instanceMethod yX7_tollWith, .initialized RX7, .code yX7_tollWith cX7_tollWith 2 (some .int)])
def wsX8_fail : List Cond := .code yX8_fail cX8_fail 1 none :: ([.classLink RX8 18 "java/lang/UnsupportedOperationException", .initialized "java/lang/UnsupportedOperationException"] ++ (vx_atS RX8 22 "java/lang/UnsupportedOperationException" ["java/lang/RuntimeException", "java/lang/Exception"]).filter goodWord)
def wsX9_init : List Cond := .code yX9_init cX9_init 1 none :: ([.methodLink RX9 3 objectInit, .instanceMethod objectInit, .code objectInit ⟨#[0xb1]⟩ 1 none, .arrayClass .int, .fieldLink RX9 9 "SaidInWinter$Shelf" "elements" "[I"] ++ wsX90)
def wsX9_takeLayer : List Cond := .code yX9_takeLayer cX9_takeLayer 3 none :: ([.fieldLink RX9 15 "SaidInWinter$Shelf" "held" "I", .fieldLink RX9 19 "SaidInWinter$Shelf" "kind" "I", .fieldLink RX9 22 "SaidInWinter$Shelf" "oath" "I"] ++ wsX90)
def wsX9_takeRow : List Cond := .code yX9_takeRow cX9_takeRow 3 none :: ([.fieldLink RX9 15 "SaidInWinter$Shelf" "held" "I", .fieldLink RX9 25 "SaidInWinter$Shelf" "sort" "I", .fieldLink RX9 28 "SaidInWinter$Shelf" "size" "I", .fieldLink RX9 9 "SaidInWinter$Shelf" "elements" "[I", .methodLink RX9 31 yJ7_fill_53178, .static yJ7_fill_53178, .initialized RJ7, .code yJ7_fill_53178 cJ7_fill_53178 4 none] ++ wsX90)
def wsX9_lacks : List Cond := .code yX9_lacks cX9_lacks 2 (some .int) :: ([.fieldLink RX9 15 "SaidInWinter$Shelf" "held" "I"] ++ wsX90)
def wsX9_hasPlace : List Cond := .code yX9_hasPlace cX9_hasPlace 2 (some .boolean) :: ([.fieldLink RX9 28 "SaidInWinter$Shelf" "size" "I", .fieldLink RX9 9 "SaidInWinter$Shelf" "elements" "[I"] ++ wsX90)
def wsX9_hasStretch : List Cond := .code yX9_hasStretch cX9_hasStretch 3 (some .boolean) :: ([.fieldLink RX9 28 "SaidInWinter$Shelf" "size" "I"] ++ wsX90)
def wsX9_valueAt : List Cond := .code yX9_valueAt cX9_valueAt 2 (some .int) :: ([.fieldLink RX9 9 "SaidInWinter$Shelf" "elements" "[I", .methodLink RX9 37 yX9_hasPlace, .instanceMethod yX9_hasPlace, .selects RX9 yX9_hasPlace yX9_hasPlace, .initialized RX9, .code yX9_hasPlace cX9_hasPlace 2 (some .boolean), .fieldLink RX9 28 "SaidInWinter$Shelf" "size" "I"] ++ wsX90)
def wsX9_digitAt : List Cond := .code yX9_digitAt cX9_digitAt 3 (some .int) :: ([.methodLink RX9 41 yX9_valueAt, .instanceMethod yX9_valueAt, .selects RX9 yX9_valueAt yX9_valueAt, .initialized RX9, .code yX9_valueAt cX9_valueAt 2 (some .int), .fieldLink RX9 9 "SaidInWinter$Shelf" "elements" "[I", .methodLink RX9 37 yX9_hasPlace, .instanceMethod yX9_hasPlace, .selects RX9 yX9_hasPlace yX9_hasPlace, .code yX9_hasPlace cX9_hasPlace 2 (some .boolean), .fieldLink RX9 28 "SaidInWinter$Shelf" "size" "I", .static yX11_within, .initialized RX11, .code yX11_within cX11_within 3 (some .boolean)] ++ wsX90)
def wsX9_lowestBits : List Cond := .code yX9_lowestBits cX9_lowestBits 2 (some .int) :: ([.fieldLink RX9 25 "SaidInWinter$Shelf" "sort" "I"] ++ wsX90)
def wsX9_leastNumber : List Cond := .code yX9_leastNumber cX9_leastNumber 1 (some .int) :: ([.fieldLink RX9 25 "SaidInWinter$Shelf" "sort" "I", .constant RX9 49 (-2147483648)] ++ wsX90)
def wsX11_init_r1 : List Cond := [Cond.methodLink RX11 1 objectInit, Cond.instanceMethod objectInit, Cond.code objectInit ⟨#[0xb1]⟩ 1 none, Cond.classLink RX11 7 RX7, Cond.instantiable RX7 0, Cond.initialized RX7, Cond.classLink RX11 10 RX3, Cond.instantiable RX3 0, Cond.initialized RX3, Cond.classLink RX11 13 RX5, Cond.instantiable RX5 0, Cond.initialized RX5, Cond.classLink RX11 16 RX10, Cond.instantiable RX10 0, Cond.initialized RX10, Cond.classLink RX11 19 RX1, Cond.instantiable RX1 0, Cond.initialized RX1, Cond.classLink RX11 22 RX8, Cond.instantiable RX8 0, Cond.initialized RX8, Cond.classLink RX11 25 RX0, Cond.instantiable RX0 0, Cond.initialized RX0]
def wsX11_init_r2 : List Cond := [Cond.classLink RX11 28 RX4, Cond.instantiable RX4 0, Cond.initialized RX4, Cond.fieldLink RX11 31 "SaidInWinter" "kinds" "[LSaidInWinter$Layer;", Cond.classLink RX11 37 RX6, Cond.instantiable RX6 3, Cond.initialized RX6, Cond.fieldLink RX11 42 "SaidInWinter" "now" "LSaidInWinter$Lake;", Cond.fieldLink RX11 46 "SaidInWinter" "imaged" "LSaidInWinter$Lake;", Cond.fieldLink RX11 49 "SaidInWinter" "mind" "LSaidInWinter$Lake;", Cond.classLink RX11 52 RX9, Cond.fieldLink RX11 54 "SaidInWinter" "shelves" "[LSaidInWinter$Shelf;", Cond.instantiable RX9 6, Cond.initialized RX9, Cond.arrayClass .int, Cond.fieldLink RX11 59 "SaidInWinter" "seenIn" "[I", Cond.fieldLink RX11 63 "SaidInWinter" "ahead" "[I", Cond.instanceMethod yX7_init, Cond.code yX7_init cX7_init 1 none, Cond.methodLink RX7 1 objectInit, Cond.instanceMethod yX3_init, Cond.code yX3_init cX3_init 1 none, Cond.instanceMethod yX5_init, Cond.code yX5_init cX5_init 1 none]
def wsX11_init_r3 : List Cond := [Cond.instanceMethod yX10_init, Cond.code yX10_init cX10_init 1 none, Cond.instanceMethod yX1_init, Cond.code yX1_init cX1_init 1 none, Cond.instanceMethod yX8_init, Cond.code yX8_init cX8_init 1 none, Cond.instanceMethod yX0_init, Cond.code yX0_init cX0_init 1 none, Cond.instanceMethod yX4_init, Cond.code yX4_init cX4_init 1 none, Cond.methodLink RX11 39 yX6_init, Cond.instanceMethod yX6_init, Cond.code yX6_init cX6_init 3 none, Cond.methodLink RX6 3 objectInit, Cond.classLink RX6 9 RX2, Cond.fieldLink RX6 11 "SaidInWinter$Lake" "cells" "[LSaidInWinter$Cell;", Cond.fieldLink RX6 17 "SaidInWinter$Lake" "kinds" "[LSaidInWinter$Layer;", Cond.instantiable RX2 7, Cond.initialized RX2, Cond.instanceMethod yX2_init, Cond.code yX2_init cX2_init 1 none, Cond.methodLink RX2 3 objectInit, Cond.fieldLink RX2 9 "SaidInWinter$Cell" "kind" "[I", Cond.fieldLink RX2 15 "SaidInWinter$Cell" "oath" "[I"]
def wsX11_init_r4 : List Cond := [Cond.fieldLink RX2 18 "SaidInWinter$Cell" "frozenIn" "[I", Cond.fieldLink RX2 21 "SaidInWinter$Cell" "thick" "[I", Cond.fieldLink RX2 24 "SaidInWinter$Cell" "melts" "[I", Cond.fieldLink RX2 27 "SaidInWinter$Cell" "light" "[I", Cond.instanceMethod yX9_init, Cond.code yX9_init cX9_init 1 none, Cond.methodLink RX9 3 objectInit, Cond.fieldLink RX9 9 "SaidInWinter$Shelf" "elements" "[I"]
def wsX11_init : List Cond := .code yX11_init cX11_init 2 none :: ((wsX11_init_r1 ++ (wsX11_init_r2 ++ (wsX11_init_r3 ++ wsX11_init_r4))) ++ wsX70 ++ wsX30 ++ wsX50 ++ wsX100 ++ wsX10 ++ wsX80 ++ wsX00 ++ wsX40 ++ wsX110 ++ wsX60 ++ wsX90 ++ wsX20)
def wsX11_shelfAt : List Cond := .code yX11_shelfAt cX11_shelfAt 2 (some (.object "SaidInWinter$Shelf")) :: ([.fieldLink RX11 54 "SaidInWinter" "shelves" "[LSaidInWinter$Shelf;", .methodLink RX11 89 yX11_within, .static yX11_within, .initialized RX11, .code yX11_within cX11_within 3 (some .boolean)] ++ wsX110)
def wsX11_statementLength : List Cond := .code yX11_statementLength cX11_statementLength 1 (some .int) :: ([])
def wsX11_firstBadByte : List Cond := .code yX11_firstBadByte cX11_firstBadByte 5 (some .int) :: ([.methodLink RX11 281 yX9_valueAt, .instanceMethod yX9_valueAt, .selects RX9 yX9_valueAt yX9_valueAt, .initialized RX9, .code yX9_valueAt cX9_valueAt 2 (some .int), .fieldLink RX9 9 "SaidInWinter$Shelf" "elements" "[I", .methodLink RX9 37 yX9_hasPlace, .instanceMethod yX9_hasPlace, .selects RX9 yX9_hasPlace yX9_hasPlace, .code yX9_hasPlace cX9_hasPlace 2 (some .boolean), .fieldLink RX9 28 "SaidInWinter$Shelf" "size" "I", .methodLink RX11 284 yX11_statementLength, .static yX11_statementLength, .initialized RX11, .code yX11_statementLength cX11_statementLength 1 (some .int), .methodLink RX11 287 yX9_digitAt, .instanceMethod yX9_digitAt, .selects RX9 yX9_digitAt yX9_digitAt, .code yX9_digitAt cX9_digitAt 3 (some .int), .methodLink RX9 41 yX9_valueAt, .static yX11_within, .code yX11_within cX11_within 3 (some .boolean)] ++ wsX90)
def wsX11_doStatement_r1 : List Cond := [Cond.fieldLink RX11 49 "SaidInWinter" "mind" "LSaidInWinter$Lake;", Cond.methodLink RX11 287 yX9_digitAt, Cond.instanceMethod yX9_digitAt, Cond.selects RX9 yX9_digitAt yX9_digitAt, Cond.initialized RX9, Cond.code yX9_digitAt cX9_digitAt 3 (some .int), Cond.methodLink RX9 41 yX9_valueAt, Cond.instanceMethod yX9_valueAt, Cond.selects RX9 yX9_valueAt yX9_valueAt, Cond.code yX9_valueAt cX9_valueAt 2 (some .int), Cond.fieldLink RX9 9 "SaidInWinter$Shelf" "elements" "[I", Cond.methodLink RX9 37 yX9_hasPlace, Cond.instanceMethod yX9_hasPlace, Cond.selects RX9 yX9_hasPlace yX9_hasPlace, Cond.code yX9_hasPlace cX9_hasPlace 2 (some .boolean), Cond.fieldLink RX9 28 "SaidInWinter$Shelf" "size" "I", Cond.static yX11_within, Cond.initialized RX11, Cond.code yX11_within cX11_within 3 (some .boolean), Cond.methodLink RX11 281 yX9_valueAt, Cond.methodLink RX11 99 yX6_freezeIn, Cond.instanceMethod yX6_freezeIn, Cond.selects RX6 yX6_freezeIn yX6_freezeIn, Cond.initialized RX6]
def wsX11_doStatement_r2 : List Cond := [Cond.code yX6_freezeIn cX6_freezeIn 6 (some .int), Cond.fieldLink RX6 17 "SaidInWinter$Lake" "kinds" "[LSaidInWinter$Layer;", Cond.fieldLink RX6 26 "SaidInWinter$Lake" "winter" "I", Cond.methodLink RX6 34 yX6_cellAt, Cond.instanceMethod yX6_cellAt, Cond.selects RX6 yX6_cellAt yX6_cellAt, Cond.code yX6_cellAt cX6_cellAt 2 (some (.object "SaidInWinter$Cell")), Cond.fieldLink RX6 11 "SaidInWinter$Lake" "cells" "[LSaidInWinter$Cell;", Cond.static yX11_isKindAndOath, Cond.code yX11_isKindAndOath cX11_isKindAndOath 2 (some .boolean), Cond.methodLink RX11 89 yX11_within, Cond.static yX11_kindOf, Cond.code yX11_kindOf cX11_kindOf 2 (some (.object "SaidInWinter$Layer")), Cond.methodLink RX6 46 yX2_freezeOn, Cond.instanceMethod yX2_freezeOn, Cond.selects RX2 yX2_freezeOn yX2_freezeOn, Cond.initialized RX2, Cond.code yX2_freezeOn cX2_freezeOn 7 (some .int), Cond.fieldLink RX2 30 "SaidInWinter$Cell" "layers" "I", Cond.fieldLink RX2 9 "SaidInWinter$Cell" "kind" "[I", Cond.fieldLink RX2 15 "SaidInWinter$Cell" "oath" "[I", Cond.fieldLink RX2 18 "SaidInWinter$Cell" "frozenIn" "[I", Cond.fieldLink RX2 21 "SaidInWinter$Cell" "thick" "[I", Cond.fieldLink RX2 24 "SaidInWinter$Cell" "melts" "[I"]
def wsX11_doStatement_r3 : List Cond := [Cond.fieldLink RX2 27 "SaidInWinter$Cell" "light" "[I", Cond.methodLink RX2 57 ⟨"SaidInWinter$Layer", "fingersIn", "(II)I"⟩, Cond.sameMethod "SaidInWinter$Layer" "SaidInWinter$Layer" "fingersIn" "(II)I", Cond.instanceMethod ⟨"SaidInWinter$Layer", "fingersIn", "(II)I"⟩, Cond.selects RX0 ⟨"SaidInWinter$Layer", "fingersIn", "(II)I"⟩ yX0_fingersIn, Cond.instanceMethod yX0_fingersIn, Cond.initialized RX0, Cond.code yX0_fingersIn cX0_fingersIn 3 (some .int), Cond.methodLink RX0 7 yX3_fingersIn, Cond.sameMethod "SaidInWinter$Clear" "SaidInWinter$Clear" "fingersIn" "(II)I", Cond.superclass RX0 RX3, Cond.instanceMethod yX3_fingersIn, Cond.initialized RX3, Cond.code yX3_fingersIn cX3_fingersIn 3 (some .int), Cond.methodLink RX3 7 yX7_fingersIn, Cond.superclass RX3 RX7, Cond.instanceMethod yX7_fingersIn, Cond.initialized RX7, Cond.code yX7_fingersIn cX7_fingersIn 3 (some .int), Cond.selects RX1 ⟨"SaidInWinter$Layer", "fingersIn", "(II)I"⟩ yX3_fingersIn, Cond.selects RX3 ⟨"SaidInWinter$Layer", "fingersIn", "(II)I"⟩ yX3_fingersIn, Cond.selects RX4 ⟨"SaidInWinter$Layer", "fingersIn", "(II)I"⟩ yX10_fingersIn, Cond.instanceMethod yX10_fingersIn, Cond.initialized RX10]
def wsX11_doStatement_r4 : List Cond := [Cond.code yX10_fingersIn cX10_fingersIn 3 (some .int), Cond.methodLink RX10 7 yX7_fingersIn, Cond.superclass RX10 RX7, Cond.selects RX5 ⟨"SaidInWinter$Layer", "fingersIn", "(II)I"⟩ yX5_fingersIn, Cond.instanceMethod yX5_fingersIn, Cond.initialized RX5, Cond.code yX5_fingersIn cX5_fingersIn 3 (some .int), Cond.methodLink RX5 11 Lib.Math.max.name, Cond.static Lib.Math.max.name, Cond.initialized "java/lang/Math", Cond.code Lib.Math.max.name Lib.Math.max.code 2 (some .int), Cond.methodLink RX5 7 yX7_fingersIn, Cond.superclass RX5 RX7, Cond.methodLink RX2 57 yX7_fingersIn, Cond.selects RX7 yX7_fingersIn yX7_fingersIn, Cond.selects RX8 ⟨"SaidInWinter$Layer", "fingersIn", "(II)I"⟩ yX8_fingersIn, Cond.instanceMethod yX8_fingersIn, Cond.initialized RX8, Cond.code yX8_fingersIn cX8_fingersIn 3 (some .int), Cond.methodLink RX8 7 yX10_fingersIn, Cond.sameMethod "SaidInWinter$Snow" "SaidInWinter$Snow" "fingersIn" "(II)I", Cond.superclass RX8 RX10, Cond.selects RX10 ⟨"SaidInWinter$Layer", "fingersIn", "(II)I"⟩ yX10_fingersIn, Cond.methodLink RX2 63 ⟨"SaidInWinter$Layer", "melts", "(I)I"⟩]
def wsX11_doStatement_r5 : List Cond := [Cond.sameMethod "SaidInWinter$Layer" "SaidInWinter$Layer" "melts" "(I)I", Cond.instanceMethod ⟨"SaidInWinter$Layer", "melts", "(I)I"⟩, Cond.selects RX0 ⟨"SaidInWinter$Layer", "melts", "(I)I"⟩ yX3_melts, Cond.instanceMethod yX3_melts, Cond.code yX3_melts cX3_melts 2 (some .int), Cond.methodLink RX3 11 yX7_melts, Cond.instanceMethod yX7_melts, Cond.code yX7_melts cX7_melts 2 (some .int), Cond.selects RX1 ⟨"SaidInWinter$Layer", "melts", "(I)I"⟩ yX1_melts, Cond.instanceMethod yX1_melts, Cond.initialized RX1, Cond.code yX1_melts cX1_melts 2 (some .int), Cond.methodLink RX1 7 yX3_melts, Cond.sameMethod "SaidInWinter$Clear" "SaidInWinter$Clear" "melts" "(I)I", Cond.superclass RX1 RX3, Cond.selects RX3 ⟨"SaidInWinter$Layer", "melts", "(I)I"⟩ yX3_melts, Cond.selects RX4 ⟨"SaidInWinter$Layer", "melts", "(I)I"⟩ yX4_melts, Cond.instanceMethod yX4_melts, Cond.initialized RX4, Cond.code yX4_melts cX4_melts 2 (some .int), Cond.methodLink RX4 7 yX10_melts, Cond.sameMethod "SaidInWinter$Snow" "SaidInWinter$Snow" "melts" "(I)I", Cond.superclass RX4 RX10, Cond.instanceMethod yX10_melts]
def wsX11_doStatement_r6 : List Cond := [Cond.code yX10_melts cX10_melts 2 (some .int), Cond.methodLink RX10 11 yX7_melts, Cond.selects RX5 ⟨"SaidInWinter$Layer", "melts", "(I)I"⟩ yX5_melts, Cond.instanceMethod yX5_melts, Cond.code yX5_melts cX5_melts 2 (some .int), Cond.methodLink RX5 16 yX7_melts, Cond.methodLink RX2 63 yX7_melts, Cond.selects RX7 yX7_melts yX7_melts, Cond.selects RX8 ⟨"SaidInWinter$Layer", "melts", "(I)I"⟩ yX8_melts, Cond.instanceMethod yX8_melts, Cond.code yX8_melts cX8_melts 2 (some .int), Cond.methodLink RX8 11 yX10_melts, Cond.selects RX10 ⟨"SaidInWinter$Layer", "melts", "(I)I"⟩ yX10_melts, Cond.methodLink RX2 65 ⟨"SaidInWinter$Layer", "light", "(I)I"⟩, Cond.sameMethod "SaidInWinter$Layer" "SaidInWinter$Layer" "light" "(I)I", Cond.instanceMethod ⟨"SaidInWinter$Layer", "light", "(I)I"⟩, Cond.selects RX0 ⟨"SaidInWinter$Layer", "light", "(I)I"⟩ yX0_light, Cond.instanceMethod yX0_light, Cond.code yX0_light cX0_light 2 (some .int), Cond.methodLink RX0 11 yX3_light, Cond.sameMethod "SaidInWinter$Clear" "SaidInWinter$Clear" "light" "(I)I", Cond.instanceMethod yX3_light, Cond.code yX3_light cX3_light 2 (some .int), Cond.methodLink RX3 15 yX7_light]
def wsX11_doStatement_r7 : List Cond := [Cond.instanceMethod yX7_light, Cond.code yX7_light cX7_light 2 (some .int), Cond.selects RX1 ⟨"SaidInWinter$Layer", "light", "(I)I"⟩ yX1_light, Cond.instanceMethod yX1_light, Cond.code yX1_light cX1_light 2 (some .int), Cond.methodLink RX1 11 yX3_light, Cond.selects RX3 ⟨"SaidInWinter$Layer", "light", "(I)I"⟩ yX3_light, Cond.selects RX4 ⟨"SaidInWinter$Layer", "light", "(I)I"⟩ yX4_light, Cond.instanceMethod yX4_light, Cond.code yX4_light cX4_light 2 (some .int), Cond.selects RX5 ⟨"SaidInWinter$Layer", "light", "(I)I"⟩ yX7_light, Cond.methodLink RX2 65 yX7_light, Cond.selects RX7 yX7_light yX7_light, Cond.selects RX8 ⟨"SaidInWinter$Layer", "light", "(I)I"⟩ yX10_light, Cond.instanceMethod yX10_light, Cond.code yX10_light cX10_light 2 (some .int), Cond.methodLink RX10 15 yX7_light, Cond.selects RX10 ⟨"SaidInWinter$Layer", "light", "(I)I"⟩ yX10_light, Cond.methodLink RX11 103 yX6_thawFor, Cond.instanceMethod yX6_thawFor, Cond.selects RX6 yX6_thawFor yX6_thawFor, Cond.code yX6_thawFor cX6_thawFor 8 (some .int), Cond.methodLink RX6 53 yX2_warmDay, Cond.instanceMethod yX2_warmDay]
def wsX11_doStatement_r8 : List Cond := [Cond.selects RX2 yX2_warmDay yX2_warmDay, Cond.code yX2_warmDay cX2_warmDay 2 (some .int), Cond.methodLink RX2 70 Lib.Math.min.name, Cond.static Lib.Math.min.name, Cond.code Lib.Math.min.name Lib.Math.min.code 2 (some .int), Cond.methodLink RX2 34 yX2_has, Cond.instanceMethod yX2_has, Cond.selects RX2 yX2_has yX2_has, Cond.code yX2_has cX2_has 2 (some .boolean), Cond.methodLink RX2 67 yX2_meltsAt, Cond.instanceMethod yX2_meltsAt, Cond.selects RX2 yX2_meltsAt yX2_meltsAt, Cond.code yX2_meltsAt cX2_meltsAt 2 (some .int), Cond.methodLink RX2 38 yX2_thickAt, Cond.instanceMethod yX2_thickAt, Cond.selects RX2 yX2_thickAt yX2_thickAt, Cond.code yX2_thickAt cX2_thickAt 2 (some .int), Cond.methodLink RX2 75 yX2_cutOff, Cond.instanceMethod yX2_cutOff, Cond.selects RX2 yX2_cutOff yX2_cutOff, Cond.code yX2_cutOff cX2_cutOff 6 (some .int), Cond.methodLink RX11 106 yX6_cutIn, Cond.instanceMethod yX6_cutIn, Cond.selects RX6 yX6_cutIn yX6_cutIn]
def wsX11_doStatement_r9 : List Cond := [Cond.code yX6_cutIn cX6_cutIn 4 (some .int), Cond.methodLink RX6 57 yX2_cutOff, Cond.methodLink RX11 110 yX6_driftOn, Cond.instanceMethod yX6_driftOn, Cond.selects RX6 yX6_driftOn yX6_driftOn, Cond.code yX6_driftOn cX6_driftOn 3 (some .int), Cond.methodLink RX11 114 yX6_nextWinter, Cond.instanceMethod yX6_nextWinter, Cond.selects RX6 yX6_nextWinter yX6_nextWinter, Cond.code yX6_nextWinter cX6_nextWinter 1 (some .int)]
def wsX11_doStatement : List Cond := .code yX11_doStatement cX11_doStatement 4 (some .int) :: ((wsX11_doStatement_r1 ++ (wsX11_doStatement_r2 ++ (wsX11_doStatement_r3 ++ (wsX11_doStatement_r4 ++ (wsX11_doStatement_r5 ++ (wsX11_doStatement_r6 ++ (wsX11_doStatement_r7 ++ (wsX11_doStatement_r8 ++ wsX11_doStatement_r9)))))))) ++ wsX110 ++ wsX90 ++ wsX60 ++ wsX20)
def wsX11_readStatements_r1 : List Cond := [Cond.fieldLink RX11 49 "SaidInWinter" "mind" "LSaidInWinter$Lake;", Cond.fieldLink RX11 42 "SaidInWinter" "now" "LSaidInWinter$Lake;", Cond.methodLink RX11 297 Lib.Math.max.name, Cond.static Lib.Math.max.name, Cond.initialized "java/lang/Math", Cond.code Lib.Math.max.name Lib.Math.max.code 2 (some .int), Cond.methodLink RX11 199 yX6_takeAll, Cond.instanceMethod yX6_takeAll, Cond.selects RX6 yX6_takeAll yX6_takeAll, Cond.initialized RX6, Cond.code yX6_takeAll cX6_takeAll 3 none, Cond.fieldLink RX6 26 "SaidInWinter$Lake" "winter" "I", Cond.fieldLink RX6 11 "SaidInWinter$Lake" "cells" "[LSaidInWinter$Cell;", Cond.methodLink RX6 30 yX2_takeLayers, Cond.instanceMethod yX2_takeLayers, Cond.selects RX2 yX2_takeLayers yX2_takeLayers, Cond.initialized RX2, Cond.code yX2_takeLayers cX2_takeLayers 3 none, Cond.fieldLink RX2 30 "SaidInWinter$Cell" "layers" "I", Cond.fieldLink RX2 9 "SaidInWinter$Cell" "kind" "[I", Cond.fieldLink RX2 15 "SaidInWinter$Cell" "oath" "[I", Cond.fieldLink RX2 18 "SaidInWinter$Cell" "frozenIn" "[I", Cond.fieldLink RX2 21 "SaidInWinter$Cell" "thick" "[I", Cond.fieldLink RX2 24 "SaidInWinter$Cell" "melts" "[I"]
def wsX11_readStatements_r2 : List Cond := [Cond.fieldLink RX2 27 "SaidInWinter$Cell" "light" "[I", Cond.methodLink RX11 293 yX11_doStatement, Cond.instanceMethod yX11_doStatement, Cond.selects RX11 yX11_doStatement yX11_doStatement, Cond.initialized RX11, Cond.code yX11_doStatement cX11_doStatement 4 (some .int), Cond.methodLink RX11 287 yX9_digitAt, Cond.instanceMethod yX9_digitAt, Cond.selects RX9 yX9_digitAt yX9_digitAt, Cond.initialized RX9, Cond.code yX9_digitAt cX9_digitAt 3 (some .int), Cond.methodLink RX9 41 yX9_valueAt, Cond.instanceMethod yX9_valueAt, Cond.selects RX9 yX9_valueAt yX9_valueAt, Cond.code yX9_valueAt cX9_valueAt 2 (some .int), Cond.fieldLink RX9 9 "SaidInWinter$Shelf" "elements" "[I", Cond.methodLink RX9 37 yX9_hasPlace, Cond.instanceMethod yX9_hasPlace, Cond.selects RX9 yX9_hasPlace yX9_hasPlace, Cond.code yX9_hasPlace cX9_hasPlace 2 (some .boolean), Cond.fieldLink RX9 28 "SaidInWinter$Shelf" "size" "I", Cond.static yX11_within, Cond.code yX11_within cX11_within 3 (some .boolean), Cond.methodLink RX11 281 yX9_valueAt]
def wsX11_readStatements_r3 : List Cond := [Cond.methodLink RX11 99 yX6_freezeIn, Cond.instanceMethod yX6_freezeIn, Cond.selects RX6 yX6_freezeIn yX6_freezeIn, Cond.code yX6_freezeIn cX6_freezeIn 6 (some .int), Cond.fieldLink RX6 17 "SaidInWinter$Lake" "kinds" "[LSaidInWinter$Layer;", Cond.methodLink RX6 34 yX6_cellAt, Cond.instanceMethod yX6_cellAt, Cond.selects RX6 yX6_cellAt yX6_cellAt, Cond.code yX6_cellAt cX6_cellAt 2 (some (.object "SaidInWinter$Cell")), Cond.static yX11_isKindAndOath, Cond.code yX11_isKindAndOath cX11_isKindAndOath 2 (some .boolean), Cond.methodLink RX11 89 yX11_within, Cond.static yX11_kindOf, Cond.code yX11_kindOf cX11_kindOf 2 (some (.object "SaidInWinter$Layer")), Cond.methodLink RX6 46 yX2_freezeOn, Cond.instanceMethod yX2_freezeOn, Cond.selects RX2 yX2_freezeOn yX2_freezeOn, Cond.code yX2_freezeOn cX2_freezeOn 7 (some .int), Cond.methodLink RX2 57 ⟨"SaidInWinter$Layer", "fingersIn", "(II)I"⟩, Cond.sameMethod "SaidInWinter$Layer" "SaidInWinter$Layer" "fingersIn" "(II)I", Cond.instanceMethod ⟨"SaidInWinter$Layer", "fingersIn", "(II)I"⟩, Cond.selects RX0 ⟨"SaidInWinter$Layer", "fingersIn", "(II)I"⟩ yX0_fingersIn, Cond.instanceMethod yX0_fingersIn, Cond.initialized RX0]
def wsX11_readStatements_r4 : List Cond := [Cond.code yX0_fingersIn cX0_fingersIn 3 (some .int), Cond.methodLink RX0 7 yX3_fingersIn, Cond.sameMethod "SaidInWinter$Clear" "SaidInWinter$Clear" "fingersIn" "(II)I", Cond.superclass RX0 RX3, Cond.instanceMethod yX3_fingersIn, Cond.initialized RX3, Cond.code yX3_fingersIn cX3_fingersIn 3 (some .int), Cond.methodLink RX3 7 yX7_fingersIn, Cond.superclass RX3 RX7, Cond.instanceMethod yX7_fingersIn, Cond.initialized RX7, Cond.code yX7_fingersIn cX7_fingersIn 3 (some .int), Cond.selects RX1 ⟨"SaidInWinter$Layer", "fingersIn", "(II)I"⟩ yX3_fingersIn, Cond.selects RX3 ⟨"SaidInWinter$Layer", "fingersIn", "(II)I"⟩ yX3_fingersIn, Cond.selects RX4 ⟨"SaidInWinter$Layer", "fingersIn", "(II)I"⟩ yX10_fingersIn, Cond.instanceMethod yX10_fingersIn, Cond.initialized RX10, Cond.code yX10_fingersIn cX10_fingersIn 3 (some .int), Cond.methodLink RX10 7 yX7_fingersIn, Cond.superclass RX10 RX7, Cond.selects RX5 ⟨"SaidInWinter$Layer", "fingersIn", "(II)I"⟩ yX5_fingersIn, Cond.instanceMethod yX5_fingersIn, Cond.initialized RX5, Cond.code yX5_fingersIn cX5_fingersIn 3 (some .int)]
def wsX11_readStatements_r5 : List Cond := [Cond.methodLink RX5 11 Lib.Math.max.name, Cond.methodLink RX5 7 yX7_fingersIn, Cond.superclass RX5 RX7, Cond.methodLink RX2 57 yX7_fingersIn, Cond.selects RX7 yX7_fingersIn yX7_fingersIn, Cond.selects RX8 ⟨"SaidInWinter$Layer", "fingersIn", "(II)I"⟩ yX8_fingersIn, Cond.instanceMethod yX8_fingersIn, Cond.initialized RX8, Cond.code yX8_fingersIn cX8_fingersIn 3 (some .int), Cond.methodLink RX8 7 yX10_fingersIn, Cond.sameMethod "SaidInWinter$Snow" "SaidInWinter$Snow" "fingersIn" "(II)I", Cond.superclass RX8 RX10, Cond.selects RX10 ⟨"SaidInWinter$Layer", "fingersIn", "(II)I"⟩ yX10_fingersIn, Cond.methodLink RX2 63 ⟨"SaidInWinter$Layer", "melts", "(I)I"⟩, Cond.sameMethod "SaidInWinter$Layer" "SaidInWinter$Layer" "melts" "(I)I", Cond.instanceMethod ⟨"SaidInWinter$Layer", "melts", "(I)I"⟩, Cond.selects RX0 ⟨"SaidInWinter$Layer", "melts", "(I)I"⟩ yX3_melts, Cond.instanceMethod yX3_melts, Cond.code yX3_melts cX3_melts 2 (some .int), Cond.methodLink RX3 11 yX7_melts, Cond.instanceMethod yX7_melts, Cond.code yX7_melts cX7_melts 2 (some .int), Cond.selects RX1 ⟨"SaidInWinter$Layer", "melts", "(I)I"⟩ yX1_melts, Cond.instanceMethod yX1_melts]
def wsX11_readStatements_r6 : List Cond := [Cond.initialized RX1, Cond.code yX1_melts cX1_melts 2 (some .int), Cond.methodLink RX1 7 yX3_melts, Cond.sameMethod "SaidInWinter$Clear" "SaidInWinter$Clear" "melts" "(I)I", Cond.superclass RX1 RX3, Cond.selects RX3 ⟨"SaidInWinter$Layer", "melts", "(I)I"⟩ yX3_melts, Cond.selects RX4 ⟨"SaidInWinter$Layer", "melts", "(I)I"⟩ yX4_melts, Cond.instanceMethod yX4_melts, Cond.initialized RX4, Cond.code yX4_melts cX4_melts 2 (some .int), Cond.methodLink RX4 7 yX10_melts, Cond.sameMethod "SaidInWinter$Snow" "SaidInWinter$Snow" "melts" "(I)I", Cond.superclass RX4 RX10, Cond.instanceMethod yX10_melts, Cond.code yX10_melts cX10_melts 2 (some .int), Cond.methodLink RX10 11 yX7_melts, Cond.selects RX5 ⟨"SaidInWinter$Layer", "melts", "(I)I"⟩ yX5_melts, Cond.instanceMethod yX5_melts, Cond.code yX5_melts cX5_melts 2 (some .int), Cond.methodLink RX5 16 yX7_melts, Cond.methodLink RX2 63 yX7_melts, Cond.selects RX7 yX7_melts yX7_melts, Cond.selects RX8 ⟨"SaidInWinter$Layer", "melts", "(I)I"⟩ yX8_melts, Cond.instanceMethod yX8_melts]
def wsX11_readStatements_r7 : List Cond := [Cond.code yX8_melts cX8_melts 2 (some .int), Cond.methodLink RX8 11 yX10_melts, Cond.selects RX10 ⟨"SaidInWinter$Layer", "melts", "(I)I"⟩ yX10_melts, Cond.methodLink RX2 65 ⟨"SaidInWinter$Layer", "light", "(I)I"⟩, Cond.sameMethod "SaidInWinter$Layer" "SaidInWinter$Layer" "light" "(I)I", Cond.instanceMethod ⟨"SaidInWinter$Layer", "light", "(I)I"⟩, Cond.selects RX0 ⟨"SaidInWinter$Layer", "light", "(I)I"⟩ yX0_light, Cond.instanceMethod yX0_light, Cond.code yX0_light cX0_light 2 (some .int), Cond.methodLink RX0 11 yX3_light, Cond.sameMethod "SaidInWinter$Clear" "SaidInWinter$Clear" "light" "(I)I", Cond.instanceMethod yX3_light, Cond.code yX3_light cX3_light 2 (some .int), Cond.methodLink RX3 15 yX7_light, Cond.instanceMethod yX7_light, Cond.code yX7_light cX7_light 2 (some .int), Cond.selects RX1 ⟨"SaidInWinter$Layer", "light", "(I)I"⟩ yX1_light, Cond.instanceMethod yX1_light, Cond.code yX1_light cX1_light 2 (some .int), Cond.methodLink RX1 11 yX3_light, Cond.selects RX3 ⟨"SaidInWinter$Layer", "light", "(I)I"⟩ yX3_light, Cond.selects RX4 ⟨"SaidInWinter$Layer", "light", "(I)I"⟩ yX4_light, Cond.instanceMethod yX4_light, Cond.code yX4_light cX4_light 2 (some .int)]
def wsX11_readStatements_r8 : List Cond := [Cond.selects RX5 ⟨"SaidInWinter$Layer", "light", "(I)I"⟩ yX7_light, Cond.methodLink RX2 65 yX7_light, Cond.selects RX7 yX7_light yX7_light, Cond.selects RX8 ⟨"SaidInWinter$Layer", "light", "(I)I"⟩ yX10_light, Cond.instanceMethod yX10_light, Cond.code yX10_light cX10_light 2 (some .int), Cond.methodLink RX10 15 yX7_light, Cond.selects RX10 ⟨"SaidInWinter$Layer", "light", "(I)I"⟩ yX10_light, Cond.methodLink RX11 103 yX6_thawFor, Cond.instanceMethod yX6_thawFor, Cond.selects RX6 yX6_thawFor yX6_thawFor, Cond.code yX6_thawFor cX6_thawFor 8 (some .int), Cond.methodLink RX6 53 yX2_warmDay, Cond.instanceMethod yX2_warmDay, Cond.selects RX2 yX2_warmDay yX2_warmDay, Cond.code yX2_warmDay cX2_warmDay 2 (some .int), Cond.methodLink RX2 70 Lib.Math.min.name, Cond.static Lib.Math.min.name, Cond.code Lib.Math.min.name Lib.Math.min.code 2 (some .int), Cond.methodLink RX2 34 yX2_has, Cond.instanceMethod yX2_has, Cond.selects RX2 yX2_has yX2_has, Cond.code yX2_has cX2_has 2 (some .boolean), Cond.methodLink RX2 67 yX2_meltsAt]
def wsX11_readStatements_r9 : List Cond := [Cond.instanceMethod yX2_meltsAt, Cond.selects RX2 yX2_meltsAt yX2_meltsAt, Cond.code yX2_meltsAt cX2_meltsAt 2 (some .int), Cond.methodLink RX2 38 yX2_thickAt, Cond.instanceMethod yX2_thickAt, Cond.selects RX2 yX2_thickAt yX2_thickAt, Cond.code yX2_thickAt cX2_thickAt 2 (some .int), Cond.methodLink RX2 75 yX2_cutOff, Cond.instanceMethod yX2_cutOff, Cond.selects RX2 yX2_cutOff yX2_cutOff, Cond.code yX2_cutOff cX2_cutOff 6 (some .int), Cond.methodLink RX11 106 yX6_cutIn, Cond.instanceMethod yX6_cutIn, Cond.selects RX6 yX6_cutIn yX6_cutIn, Cond.code yX6_cutIn cX6_cutIn 4 (some .int), Cond.methodLink RX6 57 yX2_cutOff, Cond.methodLink RX11 110 yX6_driftOn, Cond.instanceMethod yX6_driftOn, Cond.selects RX6 yX6_driftOn yX6_driftOn, Cond.code yX6_driftOn cX6_driftOn 3 (some .int), Cond.methodLink RX11 114 yX6_nextWinter, Cond.instanceMethod yX6_nextWinter, Cond.selects RX6 yX6_nextWinter yX6_nextWinter, Cond.code yX6_nextWinter cX6_nextWinter 1 (some .int)]
def wsX11_readStatements_r10 : List Cond := [Cond.methodLink RX11 284 yX11_statementLength, Cond.static yX11_statementLength, Cond.code yX11_statementLength cX11_statementLength 1 (some .int)]
def wsX11_readStatements : List Cond := .code yX11_readStatements cX11_readStatements 5 (some .int) :: ((wsX11_readStatements_r1 ++ (wsX11_readStatements_r2 ++ (wsX11_readStatements_r3 ++ (wsX11_readStatements_r4 ++ (wsX11_readStatements_r5 ++ (wsX11_readStatements_r6 ++ (wsX11_readStatements_r7 ++ (wsX11_readStatements_r8 ++ (wsX11_readStatements_r9 ++ wsX11_readStatements_r10))))))))) ++ wsX110 ++ wsX90 ++ wsX60 ++ wsX20)
def wsX11_lake_r1 : List Cond := [Cond.methodLink RX11 66 yX11_shelfAt, Cond.instanceMethod yX11_shelfAt, Cond.selects RX11 yX11_shelfAt yX11_shelfAt, Cond.initialized RX11, Cond.code yX11_shelfAt cX11_shelfAt 2 (some (.object "SaidInWinter$Shelf")), Cond.fieldLink RX11 54 "SaidInWinter" "shelves" "[LSaidInWinter$Shelf;", Cond.methodLink RX11 89 yX11_within, Cond.static yX11_within, Cond.code yX11_within cX11_within 3 (some .boolean), Cond.methodLink RX11 70 yX9_lacks, Cond.instanceMethod yX9_lacks, Cond.selects RX9 yX9_lacks yX9_lacks, Cond.initialized RX9, Cond.code yX9_lacks cX9_lacks 2 (some .int), Cond.fieldLink RX9 15 "SaidInWinter$Shelf" "held" "I", Cond.methodLink RX11 78 yX11_firstBadByte, Cond.static yX11_firstBadByte, Cond.code yX11_firstBadByte cX11_firstBadByte 5 (some .int), Cond.methodLink RX11 281 yX9_valueAt, Cond.instanceMethod yX9_valueAt, Cond.selects RX9 yX9_valueAt yX9_valueAt, Cond.code yX9_valueAt cX9_valueAt 2 (some .int), Cond.fieldLink RX9 9 "SaidInWinter$Shelf" "elements" "[I", Cond.methodLink RX9 37 yX9_hasPlace]
def wsX11_lake_r2 : List Cond := [Cond.instanceMethod yX9_hasPlace, Cond.selects RX9 yX9_hasPlace yX9_hasPlace, Cond.code yX9_hasPlace cX9_hasPlace 2 (some .boolean), Cond.fieldLink RX9 28 "SaidInWinter$Shelf" "size" "I", Cond.methodLink RX11 284 yX11_statementLength, Cond.static yX11_statementLength, Cond.code yX11_statementLength cX11_statementLength 1 (some .int), Cond.methodLink RX11 287 yX9_digitAt, Cond.instanceMethod yX9_digitAt, Cond.selects RX9 yX9_digitAt yX9_digitAt, Cond.code yX9_digitAt cX9_digitAt 3 (some .int), Cond.methodLink RX9 41 yX9_valueAt, Cond.methodLink RX11 82 yX11_readStatements, Cond.instanceMethod yX11_readStatements, Cond.selects RX11 yX11_readStatements yX11_readStatements, Cond.code yX11_readStatements cX11_readStatements 5 (some .int), Cond.fieldLink RX11 49 "SaidInWinter" "mind" "LSaidInWinter$Lake;", Cond.fieldLink RX11 42 "SaidInWinter" "now" "LSaidInWinter$Lake;", Cond.methodLink RX11 297 Lib.Math.max.name, Cond.static Lib.Math.max.name, Cond.initialized "java/lang/Math", Cond.code Lib.Math.max.name Lib.Math.max.code 2 (some .int), Cond.methodLink RX11 199 yX6_takeAll, Cond.instanceMethod yX6_takeAll]
def wsX11_lake_r3 : List Cond := [Cond.selects RX6 yX6_takeAll yX6_takeAll, Cond.initialized RX6, Cond.code yX6_takeAll cX6_takeAll 3 none, Cond.fieldLink RX6 26 "SaidInWinter$Lake" "winter" "I", Cond.fieldLink RX6 11 "SaidInWinter$Lake" "cells" "[LSaidInWinter$Cell;", Cond.methodLink RX6 30 yX2_takeLayers, Cond.instanceMethod yX2_takeLayers, Cond.selects RX2 yX2_takeLayers yX2_takeLayers, Cond.initialized RX2, Cond.code yX2_takeLayers cX2_takeLayers 3 none, Cond.fieldLink RX2 30 "SaidInWinter$Cell" "layers" "I", Cond.fieldLink RX2 9 "SaidInWinter$Cell" "kind" "[I", Cond.fieldLink RX2 15 "SaidInWinter$Cell" "oath" "[I", Cond.fieldLink RX2 18 "SaidInWinter$Cell" "frozenIn" "[I", Cond.fieldLink RX2 21 "SaidInWinter$Cell" "thick" "[I", Cond.fieldLink RX2 24 "SaidInWinter$Cell" "melts" "[I", Cond.fieldLink RX2 27 "SaidInWinter$Cell" "light" "[I", Cond.methodLink RX11 293 yX11_doStatement, Cond.instanceMethod yX11_doStatement, Cond.selects RX11 yX11_doStatement yX11_doStatement, Cond.code yX11_doStatement cX11_doStatement 4 (some .int), Cond.methodLink RX11 99 yX6_freezeIn, Cond.instanceMethod yX6_freezeIn, Cond.selects RX6 yX6_freezeIn yX6_freezeIn]
def wsX11_lake_r4 : List Cond := [Cond.code yX6_freezeIn cX6_freezeIn 6 (some .int), Cond.fieldLink RX6 17 "SaidInWinter$Lake" "kinds" "[LSaidInWinter$Layer;", Cond.methodLink RX6 34 yX6_cellAt, Cond.instanceMethod yX6_cellAt, Cond.selects RX6 yX6_cellAt yX6_cellAt, Cond.code yX6_cellAt cX6_cellAt 2 (some (.object "SaidInWinter$Cell")), Cond.static yX11_isKindAndOath, Cond.code yX11_isKindAndOath cX11_isKindAndOath 2 (some .boolean), Cond.static yX11_kindOf, Cond.code yX11_kindOf cX11_kindOf 2 (some (.object "SaidInWinter$Layer")), Cond.methodLink RX6 46 yX2_freezeOn, Cond.instanceMethod yX2_freezeOn, Cond.selects RX2 yX2_freezeOn yX2_freezeOn, Cond.code yX2_freezeOn cX2_freezeOn 7 (some .int), Cond.methodLink RX2 57 ⟨"SaidInWinter$Layer", "fingersIn", "(II)I"⟩, Cond.sameMethod "SaidInWinter$Layer" "SaidInWinter$Layer" "fingersIn" "(II)I", Cond.instanceMethod ⟨"SaidInWinter$Layer", "fingersIn", "(II)I"⟩, Cond.selects RX0 ⟨"SaidInWinter$Layer", "fingersIn", "(II)I"⟩ yX0_fingersIn, Cond.instanceMethod yX0_fingersIn, Cond.initialized RX0, Cond.code yX0_fingersIn cX0_fingersIn 3 (some .int), Cond.methodLink RX0 7 yX3_fingersIn, Cond.sameMethod "SaidInWinter$Clear" "SaidInWinter$Clear" "fingersIn" "(II)I", Cond.superclass RX0 RX3]
def wsX11_lake_r5 : List Cond := [Cond.instanceMethod yX3_fingersIn, Cond.initialized RX3, Cond.code yX3_fingersIn cX3_fingersIn 3 (some .int), Cond.methodLink RX3 7 yX7_fingersIn, Cond.superclass RX3 RX7, Cond.instanceMethod yX7_fingersIn, Cond.initialized RX7, Cond.code yX7_fingersIn cX7_fingersIn 3 (some .int), Cond.selects RX1 ⟨"SaidInWinter$Layer", "fingersIn", "(II)I"⟩ yX3_fingersIn, Cond.selects RX3 ⟨"SaidInWinter$Layer", "fingersIn", "(II)I"⟩ yX3_fingersIn, Cond.selects RX4 ⟨"SaidInWinter$Layer", "fingersIn", "(II)I"⟩ yX10_fingersIn, Cond.instanceMethod yX10_fingersIn, Cond.initialized RX10, Cond.code yX10_fingersIn cX10_fingersIn 3 (some .int), Cond.methodLink RX10 7 yX7_fingersIn, Cond.superclass RX10 RX7, Cond.selects RX5 ⟨"SaidInWinter$Layer", "fingersIn", "(II)I"⟩ yX5_fingersIn, Cond.instanceMethod yX5_fingersIn, Cond.initialized RX5, Cond.code yX5_fingersIn cX5_fingersIn 3 (some .int), Cond.methodLink RX5 11 Lib.Math.max.name, Cond.methodLink RX5 7 yX7_fingersIn, Cond.superclass RX5 RX7, Cond.methodLink RX2 57 yX7_fingersIn]
def wsX11_lake_r6 : List Cond := [Cond.selects RX7 yX7_fingersIn yX7_fingersIn, Cond.selects RX8 ⟨"SaidInWinter$Layer", "fingersIn", "(II)I"⟩ yX8_fingersIn, Cond.instanceMethod yX8_fingersIn, Cond.initialized RX8, Cond.code yX8_fingersIn cX8_fingersIn 3 (some .int), Cond.methodLink RX8 7 yX10_fingersIn, Cond.sameMethod "SaidInWinter$Snow" "SaidInWinter$Snow" "fingersIn" "(II)I", Cond.superclass RX8 RX10, Cond.selects RX10 ⟨"SaidInWinter$Layer", "fingersIn", "(II)I"⟩ yX10_fingersIn, Cond.methodLink RX2 63 ⟨"SaidInWinter$Layer", "melts", "(I)I"⟩, Cond.sameMethod "SaidInWinter$Layer" "SaidInWinter$Layer" "melts" "(I)I", Cond.instanceMethod ⟨"SaidInWinter$Layer", "melts", "(I)I"⟩, Cond.selects RX0 ⟨"SaidInWinter$Layer", "melts", "(I)I"⟩ yX3_melts, Cond.instanceMethod yX3_melts, Cond.code yX3_melts cX3_melts 2 (some .int), Cond.methodLink RX3 11 yX7_melts, Cond.instanceMethod yX7_melts, Cond.code yX7_melts cX7_melts 2 (some .int), Cond.selects RX1 ⟨"SaidInWinter$Layer", "melts", "(I)I"⟩ yX1_melts, Cond.instanceMethod yX1_melts, Cond.initialized RX1, Cond.code yX1_melts cX1_melts 2 (some .int), Cond.methodLink RX1 7 yX3_melts, Cond.sameMethod "SaidInWinter$Clear" "SaidInWinter$Clear" "melts" "(I)I"]
def wsX11_lake_r7 : List Cond := [Cond.superclass RX1 RX3, Cond.selects RX3 ⟨"SaidInWinter$Layer", "melts", "(I)I"⟩ yX3_melts, Cond.selects RX4 ⟨"SaidInWinter$Layer", "melts", "(I)I"⟩ yX4_melts, Cond.instanceMethod yX4_melts, Cond.initialized RX4, Cond.code yX4_melts cX4_melts 2 (some .int), Cond.methodLink RX4 7 yX10_melts, Cond.sameMethod "SaidInWinter$Snow" "SaidInWinter$Snow" "melts" "(I)I", Cond.superclass RX4 RX10, Cond.instanceMethod yX10_melts, Cond.code yX10_melts cX10_melts 2 (some .int), Cond.methodLink RX10 11 yX7_melts, Cond.selects RX5 ⟨"SaidInWinter$Layer", "melts", "(I)I"⟩ yX5_melts, Cond.instanceMethod yX5_melts, Cond.code yX5_melts cX5_melts 2 (some .int), Cond.methodLink RX5 16 yX7_melts, Cond.methodLink RX2 63 yX7_melts, Cond.selects RX7 yX7_melts yX7_melts, Cond.selects RX8 ⟨"SaidInWinter$Layer", "melts", "(I)I"⟩ yX8_melts, Cond.instanceMethod yX8_melts, Cond.code yX8_melts cX8_melts 2 (some .int), Cond.methodLink RX8 11 yX10_melts, Cond.selects RX10 ⟨"SaidInWinter$Layer", "melts", "(I)I"⟩ yX10_melts, Cond.methodLink RX2 65 ⟨"SaidInWinter$Layer", "light", "(I)I"⟩]
def wsX11_lake_r8 : List Cond := [Cond.sameMethod "SaidInWinter$Layer" "SaidInWinter$Layer" "light" "(I)I", Cond.instanceMethod ⟨"SaidInWinter$Layer", "light", "(I)I"⟩, Cond.selects RX0 ⟨"SaidInWinter$Layer", "light", "(I)I"⟩ yX0_light, Cond.instanceMethod yX0_light, Cond.code yX0_light cX0_light 2 (some .int), Cond.methodLink RX0 11 yX3_light, Cond.sameMethod "SaidInWinter$Clear" "SaidInWinter$Clear" "light" "(I)I", Cond.instanceMethod yX3_light, Cond.code yX3_light cX3_light 2 (some .int), Cond.methodLink RX3 15 yX7_light, Cond.instanceMethod yX7_light, Cond.code yX7_light cX7_light 2 (some .int), Cond.selects RX1 ⟨"SaidInWinter$Layer", "light", "(I)I"⟩ yX1_light, Cond.instanceMethod yX1_light, Cond.code yX1_light cX1_light 2 (some .int), Cond.methodLink RX1 11 yX3_light, Cond.selects RX3 ⟨"SaidInWinter$Layer", "light", "(I)I"⟩ yX3_light, Cond.selects RX4 ⟨"SaidInWinter$Layer", "light", "(I)I"⟩ yX4_light, Cond.instanceMethod yX4_light, Cond.code yX4_light cX4_light 2 (some .int), Cond.selects RX5 ⟨"SaidInWinter$Layer", "light", "(I)I"⟩ yX7_light, Cond.methodLink RX2 65 yX7_light, Cond.selects RX7 yX7_light yX7_light, Cond.selects RX8 ⟨"SaidInWinter$Layer", "light", "(I)I"⟩ yX10_light]
def wsX11_lake_r9 : List Cond := [Cond.instanceMethod yX10_light, Cond.code yX10_light cX10_light 2 (some .int), Cond.methodLink RX10 15 yX7_light, Cond.selects RX10 ⟨"SaidInWinter$Layer", "light", "(I)I"⟩ yX10_light, Cond.methodLink RX11 103 yX6_thawFor, Cond.instanceMethod yX6_thawFor, Cond.selects RX6 yX6_thawFor yX6_thawFor, Cond.code yX6_thawFor cX6_thawFor 8 (some .int), Cond.methodLink RX6 53 yX2_warmDay, Cond.instanceMethod yX2_warmDay, Cond.selects RX2 yX2_warmDay yX2_warmDay, Cond.code yX2_warmDay cX2_warmDay 2 (some .int), Cond.methodLink RX2 70 Lib.Math.min.name, Cond.static Lib.Math.min.name, Cond.code Lib.Math.min.name Lib.Math.min.code 2 (some .int), Cond.methodLink RX2 34 yX2_has, Cond.instanceMethod yX2_has, Cond.selects RX2 yX2_has yX2_has, Cond.code yX2_has cX2_has 2 (some .boolean), Cond.methodLink RX2 67 yX2_meltsAt, Cond.instanceMethod yX2_meltsAt, Cond.selects RX2 yX2_meltsAt yX2_meltsAt, Cond.code yX2_meltsAt cX2_meltsAt 2 (some .int), Cond.methodLink RX2 38 yX2_thickAt]
def wsX11_lake_r10 : List Cond := [Cond.instanceMethod yX2_thickAt, Cond.selects RX2 yX2_thickAt yX2_thickAt, Cond.code yX2_thickAt cX2_thickAt 2 (some .int), Cond.methodLink RX2 75 yX2_cutOff, Cond.instanceMethod yX2_cutOff, Cond.selects RX2 yX2_cutOff yX2_cutOff, Cond.code yX2_cutOff cX2_cutOff 6 (some .int), Cond.methodLink RX11 106 yX6_cutIn, Cond.instanceMethod yX6_cutIn, Cond.selects RX6 yX6_cutIn yX6_cutIn, Cond.code yX6_cutIn cX6_cutIn 4 (some .int), Cond.methodLink RX6 57 yX2_cutOff, Cond.methodLink RX11 110 yX6_driftOn, Cond.instanceMethod yX6_driftOn, Cond.selects RX6 yX6_driftOn yX6_driftOn, Cond.code yX6_driftOn cX6_driftOn 3 (some .int), Cond.methodLink RX11 114 yX6_nextWinter, Cond.instanceMethod yX6_nextWinter, Cond.selects RX6 yX6_nextWinter yX6_nextWinter, Cond.code yX6_nextWinter cX6_nextWinter 1 (some .int)]
def wsX11_lake : List Cond := .code yX11_lake cX11_lake 5 (some .int) :: ((wsX11_lake_r1 ++ (wsX11_lake_r2 ++ (wsX11_lake_r3 ++ (wsX11_lake_r4 ++ (wsX11_lake_r5 ++ (wsX11_lake_r6 ++ (wsX11_lake_r7 ++ (wsX11_lake_r8 ++ (wsX11_lake_r9 ++ wsX11_lake_r10))))))))) ++ wsX90 ++ wsX110 ++ wsX60 ++ wsX20)
def wsX11_freeze_r1 : List Cond := [Cond.fieldLink RX11 42 "SaidInWinter" "now" "LSaidInWinter$Lake;", Cond.methodLink RX11 66 yX11_shelfAt, Cond.instanceMethod yX11_shelfAt, Cond.selects RX11 yX11_shelfAt yX11_shelfAt, Cond.initialized RX11, Cond.code yX11_shelfAt cX11_shelfAt 2 (some (.object "SaidInWinter$Shelf")), Cond.fieldLink RX11 54 "SaidInWinter" "shelves" "[LSaidInWinter$Shelf;", Cond.methodLink RX11 89 yX11_within, Cond.static yX11_within, Cond.code yX11_within cX11_within 3 (some .boolean), Cond.methodLink RX11 85 yX6_cellAt, Cond.instanceMethod yX6_cellAt, Cond.selects RX6 yX6_cellAt yX6_cellAt, Cond.initialized RX6, Cond.code yX6_cellAt cX6_cellAt 2 (some (.object "SaidInWinter$Cell")), Cond.fieldLink RX6 11 "SaidInWinter$Lake" "cells" "[LSaidInWinter$Cell;", Cond.methodLink RX11 70 yX9_lacks, Cond.instanceMethod yX9_lacks, Cond.selects RX9 yX9_lacks yX9_lacks, Cond.initialized RX9, Cond.code yX9_lacks cX9_lacks 2 (some .int), Cond.fieldLink RX9 15 "SaidInWinter$Shelf" "held" "I", Cond.methodLink RX11 99 yX6_freezeIn, Cond.instanceMethod yX6_freezeIn]
def wsX11_freeze_r2 : List Cond := [Cond.selects RX6 yX6_freezeIn yX6_freezeIn, Cond.code yX6_freezeIn cX6_freezeIn 6 (some .int), Cond.fieldLink RX6 17 "SaidInWinter$Lake" "kinds" "[LSaidInWinter$Layer;", Cond.fieldLink RX6 26 "SaidInWinter$Lake" "winter" "I", Cond.methodLink RX6 34 yX6_cellAt, Cond.static yX11_isKindAndOath, Cond.code yX11_isKindAndOath cX11_isKindAndOath 2 (some .boolean), Cond.static yX11_kindOf, Cond.code yX11_kindOf cX11_kindOf 2 (some (.object "SaidInWinter$Layer")), Cond.methodLink RX6 46 yX2_freezeOn, Cond.instanceMethod yX2_freezeOn, Cond.selects RX2 yX2_freezeOn yX2_freezeOn, Cond.initialized RX2, Cond.code yX2_freezeOn cX2_freezeOn 7 (some .int), Cond.fieldLink RX2 30 "SaidInWinter$Cell" "layers" "I", Cond.fieldLink RX2 9 "SaidInWinter$Cell" "kind" "[I", Cond.fieldLink RX2 15 "SaidInWinter$Cell" "oath" "[I", Cond.fieldLink RX2 18 "SaidInWinter$Cell" "frozenIn" "[I", Cond.fieldLink RX2 21 "SaidInWinter$Cell" "thick" "[I", Cond.fieldLink RX2 24 "SaidInWinter$Cell" "melts" "[I", Cond.fieldLink RX2 27 "SaidInWinter$Cell" "light" "[I", Cond.methodLink RX2 57 ⟨"SaidInWinter$Layer", "fingersIn", "(II)I"⟩, Cond.sameMethod "SaidInWinter$Layer" "SaidInWinter$Layer" "fingersIn" "(II)I", Cond.instanceMethod ⟨"SaidInWinter$Layer", "fingersIn", "(II)I"⟩]
def wsX11_freeze_r3 : List Cond := [Cond.selects RX0 ⟨"SaidInWinter$Layer", "fingersIn", "(II)I"⟩ yX0_fingersIn, Cond.instanceMethod yX0_fingersIn, Cond.initialized RX0, Cond.code yX0_fingersIn cX0_fingersIn 3 (some .int), Cond.methodLink RX0 7 yX3_fingersIn, Cond.sameMethod "SaidInWinter$Clear" "SaidInWinter$Clear" "fingersIn" "(II)I", Cond.superclass RX0 RX3, Cond.instanceMethod yX3_fingersIn, Cond.initialized RX3, Cond.code yX3_fingersIn cX3_fingersIn 3 (some .int), Cond.methodLink RX3 7 yX7_fingersIn, Cond.superclass RX3 RX7, Cond.instanceMethod yX7_fingersIn, Cond.initialized RX7, Cond.code yX7_fingersIn cX7_fingersIn 3 (some .int), Cond.selects RX1 ⟨"SaidInWinter$Layer", "fingersIn", "(II)I"⟩ yX3_fingersIn, Cond.selects RX3 ⟨"SaidInWinter$Layer", "fingersIn", "(II)I"⟩ yX3_fingersIn, Cond.selects RX4 ⟨"SaidInWinter$Layer", "fingersIn", "(II)I"⟩ yX10_fingersIn, Cond.instanceMethod yX10_fingersIn, Cond.initialized RX10, Cond.code yX10_fingersIn cX10_fingersIn 3 (some .int), Cond.methodLink RX10 7 yX7_fingersIn, Cond.superclass RX10 RX7, Cond.selects RX5 ⟨"SaidInWinter$Layer", "fingersIn", "(II)I"⟩ yX5_fingersIn]
def wsX11_freeze_r4 : List Cond := [Cond.instanceMethod yX5_fingersIn, Cond.initialized RX5, Cond.code yX5_fingersIn cX5_fingersIn 3 (some .int), Cond.methodLink RX5 11 Lib.Math.max.name, Cond.static Lib.Math.max.name, Cond.initialized "java/lang/Math", Cond.code Lib.Math.max.name Lib.Math.max.code 2 (some .int), Cond.methodLink RX5 7 yX7_fingersIn, Cond.superclass RX5 RX7, Cond.methodLink RX2 57 yX7_fingersIn, Cond.selects RX7 yX7_fingersIn yX7_fingersIn, Cond.selects RX8 ⟨"SaidInWinter$Layer", "fingersIn", "(II)I"⟩ yX8_fingersIn, Cond.instanceMethod yX8_fingersIn, Cond.initialized RX8, Cond.code yX8_fingersIn cX8_fingersIn 3 (some .int), Cond.methodLink RX8 7 yX10_fingersIn, Cond.sameMethod "SaidInWinter$Snow" "SaidInWinter$Snow" "fingersIn" "(II)I", Cond.superclass RX8 RX10, Cond.selects RX10 ⟨"SaidInWinter$Layer", "fingersIn", "(II)I"⟩ yX10_fingersIn, Cond.methodLink RX2 63 ⟨"SaidInWinter$Layer", "melts", "(I)I"⟩, Cond.sameMethod "SaidInWinter$Layer" "SaidInWinter$Layer" "melts" "(I)I", Cond.instanceMethod ⟨"SaidInWinter$Layer", "melts", "(I)I"⟩, Cond.selects RX0 ⟨"SaidInWinter$Layer", "melts", "(I)I"⟩ yX3_melts, Cond.instanceMethod yX3_melts]
def wsX11_freeze_r5 : List Cond := [Cond.code yX3_melts cX3_melts 2 (some .int), Cond.methodLink RX3 11 yX7_melts, Cond.instanceMethod yX7_melts, Cond.code yX7_melts cX7_melts 2 (some .int), Cond.selects RX1 ⟨"SaidInWinter$Layer", "melts", "(I)I"⟩ yX1_melts, Cond.instanceMethod yX1_melts, Cond.initialized RX1, Cond.code yX1_melts cX1_melts 2 (some .int), Cond.methodLink RX1 7 yX3_melts, Cond.sameMethod "SaidInWinter$Clear" "SaidInWinter$Clear" "melts" "(I)I", Cond.superclass RX1 RX3, Cond.selects RX3 ⟨"SaidInWinter$Layer", "melts", "(I)I"⟩ yX3_melts, Cond.selects RX4 ⟨"SaidInWinter$Layer", "melts", "(I)I"⟩ yX4_melts, Cond.instanceMethod yX4_melts, Cond.initialized RX4, Cond.code yX4_melts cX4_melts 2 (some .int), Cond.methodLink RX4 7 yX10_melts, Cond.sameMethod "SaidInWinter$Snow" "SaidInWinter$Snow" "melts" "(I)I", Cond.superclass RX4 RX10, Cond.instanceMethod yX10_melts, Cond.code yX10_melts cX10_melts 2 (some .int), Cond.methodLink RX10 11 yX7_melts, Cond.selects RX5 ⟨"SaidInWinter$Layer", "melts", "(I)I"⟩ yX5_melts, Cond.instanceMethod yX5_melts]
def wsX11_freeze_r6 : List Cond := [Cond.code yX5_melts cX5_melts 2 (some .int), Cond.methodLink RX5 16 yX7_melts, Cond.methodLink RX2 63 yX7_melts, Cond.selects RX7 yX7_melts yX7_melts, Cond.selects RX8 ⟨"SaidInWinter$Layer", "melts", "(I)I"⟩ yX8_melts, Cond.instanceMethod yX8_melts, Cond.code yX8_melts cX8_melts 2 (some .int), Cond.methodLink RX8 11 yX10_melts, Cond.selects RX10 ⟨"SaidInWinter$Layer", "melts", "(I)I"⟩ yX10_melts, Cond.methodLink RX2 65 ⟨"SaidInWinter$Layer", "light", "(I)I"⟩, Cond.sameMethod "SaidInWinter$Layer" "SaidInWinter$Layer" "light" "(I)I", Cond.instanceMethod ⟨"SaidInWinter$Layer", "light", "(I)I"⟩, Cond.selects RX0 ⟨"SaidInWinter$Layer", "light", "(I)I"⟩ yX0_light, Cond.instanceMethod yX0_light, Cond.code yX0_light cX0_light 2 (some .int), Cond.methodLink RX0 11 yX3_light, Cond.sameMethod "SaidInWinter$Clear" "SaidInWinter$Clear" "light" "(I)I", Cond.instanceMethod yX3_light, Cond.code yX3_light cX3_light 2 (some .int), Cond.methodLink RX3 15 yX7_light, Cond.instanceMethod yX7_light, Cond.code yX7_light cX7_light 2 (some .int), Cond.selects RX1 ⟨"SaidInWinter$Layer", "light", "(I)I"⟩ yX1_light, Cond.instanceMethod yX1_light]
def wsX11_freeze_r7 : List Cond := [Cond.code yX1_light cX1_light 2 (some .int), Cond.methodLink RX1 11 yX3_light, Cond.selects RX3 ⟨"SaidInWinter$Layer", "light", "(I)I"⟩ yX3_light, Cond.selects RX4 ⟨"SaidInWinter$Layer", "light", "(I)I"⟩ yX4_light, Cond.instanceMethod yX4_light, Cond.code yX4_light cX4_light 2 (some .int), Cond.selects RX5 ⟨"SaidInWinter$Layer", "light", "(I)I"⟩ yX7_light, Cond.methodLink RX2 65 yX7_light, Cond.selects RX7 yX7_light yX7_light, Cond.selects RX8 ⟨"SaidInWinter$Layer", "light", "(I)I"⟩ yX10_light, Cond.instanceMethod yX10_light, Cond.code yX10_light cX10_light 2 (some .int), Cond.methodLink RX10 15 yX7_light, Cond.selects RX10 ⟨"SaidInWinter$Layer", "light", "(I)I"⟩ yX10_light]
def wsX11_freeze : List Cond := .code yX11_freeze cX11_freeze 6 (some .int) :: ((wsX11_freeze_r1 ++ (wsX11_freeze_r2 ++ (wsX11_freeze_r3 ++ (wsX11_freeze_r4 ++ (wsX11_freeze_r5 ++ (wsX11_freeze_r6 ++ wsX11_freeze_r7)))))) ++ wsX110 ++ wsX90 ++ wsX60 ++ wsX20)
def wsX11_thaw_r1 : List Cond := [Cond.fieldLink RX11 42 "SaidInWinter" "now" "LSaidInWinter$Lake;", Cond.methodLink RX11 103 yX6_thawFor, Cond.instanceMethod yX6_thawFor, Cond.selects RX6 yX6_thawFor yX6_thawFor, Cond.initialized RX6, Cond.code yX6_thawFor cX6_thawFor 8 (some .int), Cond.fieldLink RX6 11 "SaidInWinter$Lake" "cells" "[LSaidInWinter$Cell;", Cond.static yX11_within, Cond.initialized RX11, Cond.code yX11_within cX11_within 3 (some .boolean), Cond.methodLink RX6 53 yX2_warmDay, Cond.instanceMethod yX2_warmDay, Cond.selects RX2 yX2_warmDay yX2_warmDay, Cond.initialized RX2, Cond.code yX2_warmDay cX2_warmDay 2 (some .int), Cond.fieldLink RX2 30 "SaidInWinter$Cell" "layers" "I", Cond.methodLink RX2 70 Lib.Math.min.name, Cond.static Lib.Math.min.name, Cond.initialized "java/lang/Math", Cond.code Lib.Math.min.name Lib.Math.min.code 2 (some .int), Cond.methodLink RX2 34 yX2_has, Cond.instanceMethod yX2_has, Cond.selects RX2 yX2_has yX2_has, Cond.code yX2_has cX2_has 2 (some .boolean)]
def wsX11_thaw_r2 : List Cond := [Cond.methodLink RX2 67 yX2_meltsAt, Cond.instanceMethod yX2_meltsAt, Cond.selects RX2 yX2_meltsAt yX2_meltsAt, Cond.code yX2_meltsAt cX2_meltsAt 2 (some .int), Cond.fieldLink RX2 24 "SaidInWinter$Cell" "melts" "[I", Cond.methodLink RX2 38 yX2_thickAt, Cond.instanceMethod yX2_thickAt, Cond.selects RX2 yX2_thickAt yX2_thickAt, Cond.code yX2_thickAt cX2_thickAt 2 (some .int), Cond.fieldLink RX2 21 "SaidInWinter$Cell" "thick" "[I", Cond.methodLink RX2 75 yX2_cutOff, Cond.instanceMethod yX2_cutOff, Cond.selects RX2 yX2_cutOff yX2_cutOff, Cond.code yX2_cutOff cX2_cutOff 6 (some .int)]
def wsX11_thaw : List Cond := .code yX11_thaw cX11_thaw 2 (some .int) :: ((wsX11_thaw_r1 ++ wsX11_thaw_r2) ++ wsX110 ++ wsX60 ++ wsX20)
def wsX11_cut_r1 : List Cond := [Cond.fieldLink RX11 42 "SaidInWinter" "now" "LSaidInWinter$Lake;", Cond.methodLink RX11 106 yX6_cutIn, Cond.instanceMethod yX6_cutIn, Cond.selects RX6 yX6_cutIn yX6_cutIn, Cond.initialized RX6, Cond.code yX6_cutIn cX6_cutIn 4 (some .int), Cond.methodLink RX6 34 yX6_cellAt, Cond.instanceMethod yX6_cellAt, Cond.selects RX6 yX6_cellAt yX6_cellAt, Cond.code yX6_cellAt cX6_cellAt 2 (some (.object "SaidInWinter$Cell")), Cond.fieldLink RX6 11 "SaidInWinter$Lake" "cells" "[LSaidInWinter$Cell;", Cond.static yX11_within, Cond.initialized RX11, Cond.code yX11_within cX11_within 3 (some .boolean), Cond.methodLink RX6 57 yX2_cutOff, Cond.instanceMethod yX2_cutOff, Cond.selects RX2 yX2_cutOff yX2_cutOff, Cond.initialized RX2, Cond.code yX2_cutOff cX2_cutOff 6 (some .int), Cond.fieldLink RX2 30 "SaidInWinter$Cell" "layers" "I", Cond.methodLink RX2 70 Lib.Math.min.name, Cond.static Lib.Math.min.name, Cond.initialized "java/lang/Math", Cond.code Lib.Math.min.name Lib.Math.min.code 2 (some .int)]
def wsX11_cut_r2 : List Cond := [Cond.fieldLink RX2 21 "SaidInWinter$Cell" "thick" "[I", Cond.methodLink RX2 38 yX2_thickAt, Cond.instanceMethod yX2_thickAt, Cond.selects RX2 yX2_thickAt yX2_thickAt, Cond.code yX2_thickAt cX2_thickAt 2 (some .int), Cond.methodLink RX2 34 yX2_has, Cond.instanceMethod yX2_has, Cond.selects RX2 yX2_has yX2_has, Cond.code yX2_has cX2_has 2 (some .boolean)]
def wsX11_cut : List Cond := .code yX11_cut cX11_cut 3 (some .int) :: ((wsX11_cut_r1 ++ wsX11_cut_r2) ++ wsX110 ++ wsX60 ++ wsX20)
def wsX11_drift : List Cond := .code yX11_drift cX11_drift 1 (some .int) :: ([.fieldLink RX11 42 "SaidInWinter" "now" "LSaidInWinter$Lake;", .methodLink RX11 110 yX6_driftOn, .instanceMethod yX6_driftOn, .selects RX6 yX6_driftOn yX6_driftOn, .initialized RX6, .code yX6_driftOn cX6_driftOn 3 (some .int), .fieldLink RX6 11 "SaidInWinter$Lake" "cells" "[LSaidInWinter$Cell;"] ++ wsX110 ++ wsX60 ++ wsX20)
def wsX11_winter : List Cond := .code yX11_winter cX11_winter 1 (some .int) :: ([.fieldLink RX11 42 "SaidInWinter" "now" "LSaidInWinter$Lake;", .methodLink RX11 114 yX6_nextWinter, .instanceMethod yX6_nextWinter, .selects RX6 yX6_nextWinter yX6_nextWinter, .initialized RX6, .code yX6_nextWinter cX6_nextWinter 1 (some .int), .fieldLink RX6 26 "SaidInWinter$Lake" "winter" "I"] ++ wsX110 ++ wsX60)
def wsX11_layer_r1 : List Cond := [Cond.fieldLink RX11 42 "SaidInWinter" "now" "LSaidInWinter$Lake;", Cond.methodLink RX11 85 yX6_cellAt, Cond.instanceMethod yX6_cellAt, Cond.selects RX6 yX6_cellAt yX6_cellAt, Cond.initialized RX6, Cond.code yX6_cellAt cX6_cellAt 2 (some (.object "SaidInWinter$Cell")), Cond.fieldLink RX6 11 "SaidInWinter$Lake" "cells" "[LSaidInWinter$Cell;", Cond.static yX11_within, Cond.initialized RX11, Cond.code yX11_within cX11_within 3 (some .boolean), Cond.methodLink RX11 117 yX2_has, Cond.instanceMethod yX2_has, Cond.selects RX2 yX2_has yX2_has, Cond.initialized RX2, Cond.code yX2_has cX2_has 2 (some .boolean), Cond.fieldLink RX2 30 "SaidInWinter$Cell" "layers" "I", Cond.methodLink RX11 123 yX2_tellOf, Cond.instanceMethod yX2_tellOf, Cond.selects RX2 yX2_tellOf yX2_tellOf, Cond.code yX2_tellOf cX2_tellOf 3 (some .int), Cond.fieldLink RX2 9 "SaidInWinter$Cell" "kind" "[I", Cond.methodLink RX2 34 yX2_has, Cond.methodLink RX2 48 yX2_oathAt, Cond.instanceMethod yX2_oathAt]
def wsX11_layer_r2 : List Cond := [Cond.selects RX2 yX2_oathAt yX2_oathAt, Cond.code yX2_oathAt cX2_oathAt 2 (some .int), Cond.fieldLink RX2 15 "SaidInWinter$Cell" "oath" "[I", Cond.methodLink RX2 51 yX2_winterAt, Cond.instanceMethod yX2_winterAt, Cond.selects RX2 yX2_winterAt yX2_winterAt, Cond.code yX2_winterAt cX2_winterAt 2 (some .int), Cond.fieldLink RX2 18 "SaidInWinter$Cell" "frozenIn" "[I", Cond.methodLink RX2 38 yX2_thickAt, Cond.instanceMethod yX2_thickAt, Cond.selects RX2 yX2_thickAt yX2_thickAt, Cond.code yX2_thickAt cX2_thickAt 2 (some .int), Cond.fieldLink RX2 21 "SaidInWinter$Cell" "thick" "[I", Cond.methodLink RX2 42 yX2_depthAt, Cond.instanceMethod yX2_depthAt, Cond.selects RX2 yX2_depthAt yX2_depthAt, Cond.code yX2_depthAt cX2_depthAt 4 (some .int), Cond.methodLink RX2 54 yX2_canRead, Cond.instanceMethod yX2_canRead, Cond.selects RX2 yX2_canRead yX2_canRead, Cond.code yX2_canRead cX2_canRead 2 (some .boolean), Cond.methodLink RX2 45 yX2_lightAt, Cond.instanceMethod yX2_lightAt, Cond.selects RX2 yX2_lightAt yX2_lightAt]
def wsX11_layer_r3 : List Cond := [Cond.code yX2_lightAt cX2_lightAt 2 (some .int), Cond.fieldLink RX2 27 "SaidInWinter$Cell" "light" "[I"]
def wsX11_layer : List Cond := .code yX11_layer cX11_layer 5 (some .int) :: ((wsX11_layer_r1 ++ (wsX11_layer_r2 ++ wsX11_layer_r3)) ++ wsX110 ++ wsX60 ++ wsX20)
def wsX11_cell_r1 : List Cond := [Cond.fieldLink RX11 42 "SaidInWinter" "now" "LSaidInWinter$Lake;", Cond.methodLink RX11 85 yX6_cellAt, Cond.instanceMethod yX6_cellAt, Cond.selects RX6 yX6_cellAt yX6_cellAt, Cond.initialized RX6, Cond.code yX6_cellAt cX6_cellAt 2 (some (.object "SaidInWinter$Cell")), Cond.fieldLink RX6 11 "SaidInWinter$Lake" "cells" "[LSaidInWinter$Cell;", Cond.static yX11_within, Cond.initialized RX11, Cond.code yX11_within cX11_within 3 (some .boolean), Cond.methodLink RX11 89 yX11_within, Cond.methodLink RX11 129 yX2_ice, Cond.instanceMethod yX2_ice, Cond.selects RX2 yX2_ice yX2_ice, Cond.initialized RX2, Cond.code yX2_ice cX2_ice 1 (some .int), Cond.methodLink RX2 42 yX2_depthAt, Cond.instanceMethod yX2_depthAt, Cond.selects RX2 yX2_depthAt yX2_depthAt, Cond.code yX2_depthAt cX2_depthAt 4 (some .int), Cond.fieldLink RX2 30 "SaidInWinter$Cell" "layers" "I", Cond.methodLink RX2 38 yX2_thickAt, Cond.instanceMethod yX2_thickAt, Cond.selects RX2 yX2_thickAt yX2_thickAt]
def wsX11_cell_r2 : List Cond := [Cond.code yX2_thickAt cX2_thickAt 2 (some .int), Cond.fieldLink RX2 21 "SaidInWinter$Cell" "thick" "[I", Cond.methodLink RX2 34 yX2_has, Cond.instanceMethod yX2_has, Cond.selects RX2 yX2_has yX2_has, Cond.code yX2_has cX2_has 2 (some .boolean)]
def wsX11_cell : List Cond := .code yX11_cell cX11_cell 4 (some .int) :: ((wsX11_cell_r1 ++ wsX11_cell_r2) ++ wsX110 ++ wsX20 ++ wsX60)
def wsX11_holds_r1 : List Cond := [Cond.fieldLink RX11 42 "SaidInWinter" "now" "LSaidInWinter$Lake;", Cond.methodLink RX11 85 yX6_cellAt, Cond.instanceMethod yX6_cellAt, Cond.selects RX6 yX6_cellAt yX6_cellAt, Cond.initialized RX6, Cond.code yX6_cellAt cX6_cellAt 2 (some (.object "SaidInWinter$Cell")), Cond.fieldLink RX6 11 "SaidInWinter$Lake" "cells" "[LSaidInWinter$Cell;", Cond.static yX11_within, Cond.initialized RX11, Cond.code yX11_within cX11_within 3 (some .boolean), Cond.methodLink RX11 132 yX2_topmostRead, Cond.instanceMethod yX2_topmostRead, Cond.selects RX2 yX2_topmostRead yX2_topmostRead, Cond.initialized RX2, Cond.code yX2_topmostRead cX2_topmostRead 2 (some .int), Cond.fieldLink RX2 30 "SaidInWinter$Cell" "layers" "I", Cond.methodLink RX2 54 yX2_canRead, Cond.instanceMethod yX2_canRead, Cond.selects RX2 yX2_canRead yX2_canRead, Cond.code yX2_canRead cX2_canRead 2 (some .boolean), Cond.methodLink RX2 34 yX2_has, Cond.instanceMethod yX2_has, Cond.selects RX2 yX2_has yX2_has, Cond.code yX2_has cX2_has 2 (some .boolean)]
def wsX11_holds_r2 : List Cond := [Cond.methodLink RX2 42 yX2_depthAt, Cond.instanceMethod yX2_depthAt, Cond.selects RX2 yX2_depthAt yX2_depthAt, Cond.code yX2_depthAt cX2_depthAt 4 (some .int), Cond.methodLink RX2 38 yX2_thickAt, Cond.instanceMethod yX2_thickAt, Cond.selects RX2 yX2_thickAt yX2_thickAt, Cond.code yX2_thickAt cX2_thickAt 2 (some .int), Cond.fieldLink RX2 21 "SaidInWinter$Cell" "thick" "[I", Cond.methodLink RX2 45 yX2_lightAt, Cond.instanceMethod yX2_lightAt, Cond.selects RX2 yX2_lightAt yX2_lightAt, Cond.code yX2_lightAt cX2_lightAt 2 (some .int), Cond.fieldLink RX2 27 "SaidInWinter$Cell" "light" "[I", Cond.methodLink RX2 48 yX2_oathAt, Cond.instanceMethod yX2_oathAt, Cond.selects RX2 yX2_oathAt yX2_oathAt, Cond.code yX2_oathAt cX2_oathAt 2 (some .int), Cond.fieldLink RX2 15 "SaidInWinter$Cell" "oath" "[I"]
def wsX11_holds : List Cond := .code yX11_holds cX11_holds 3 (some .int) :: ((wsX11_holds_r1 ++ wsX11_holds_r2) ++ wsX110 ++ wsX60 ++ wsX20)
def wsX11_latest_r1 : List Cond := [Cond.fieldLink RX11 42 "SaidInWinter" "now" "LSaidInWinter$Lake;", Cond.methodLink RX11 89 yX11_within, Cond.static yX11_within, Cond.initialized RX11, Cond.code yX11_within cX11_within 3 (some .boolean), Cond.methodLink RX11 135 yX6_latestOf, Cond.instanceMethod yX6_latestOf, Cond.selects RX6 yX6_latestOf yX6_latestOf, Cond.initialized RX6, Cond.code yX6_latestOf cX6_latestOf 7 (some .int), Cond.fieldLink RX6 11 "SaidInWinter$Lake" "cells" "[LSaidInWinter$Cell;", Cond.methodLink RX6 73 yX2_oathAt, Cond.instanceMethod yX2_oathAt, Cond.selects RX2 yX2_oathAt yX2_oathAt, Cond.initialized RX2, Cond.code yX2_oathAt cX2_oathAt 2 (some .int), Cond.fieldLink RX2 15 "SaidInWinter$Cell" "oath" "[I", Cond.methodLink RX2 34 yX2_has, Cond.instanceMethod yX2_has, Cond.selects RX2 yX2_has yX2_has, Cond.code yX2_has cX2_has 2 (some .boolean), Cond.fieldLink RX2 30 "SaidInWinter$Cell" "layers" "I", Cond.methodLink RX6 76 yX2_winterAt, Cond.instanceMethod yX2_winterAt]
def wsX11_latest_r2 : List Cond := [Cond.selects RX2 yX2_winterAt yX2_winterAt, Cond.code yX2_winterAt cX2_winterAt 2 (some .int), Cond.fieldLink RX2 18 "SaidInWinter$Cell" "frozenIn" "[I"]
def wsX11_latest : List Cond := .code yX11_latest cX11_latest 2 (some .int) :: ((wsX11_latest_r1 ++ wsX11_latest_r2) ++ wsX110 ++ wsX60 ++ wsX20)
def wsX11_seenInAll : List Cond := .code yX11_seenInAll cX11_seenInAll 4 (some .int) :: ([.fieldLink RX11 59 "SaidInWinter" "seenIn" "[I"] ++ wsX110)
def wsX11_seen_r1 : List Cond := [Cond.fieldLink RX11 42 "SaidInWinter" "now" "LSaidInWinter$Lake;", Cond.fieldLink RX11 59 "SaidInWinter" "seenIn" "[I", Cond.methodLink RX11 89 yX11_within, Cond.static yX11_within, Cond.initialized RX11, Cond.code yX11_within cX11_within 3 (some .boolean), Cond.methodLink RX11 138 yX6_tellSeen, Cond.instanceMethod yX6_tellSeen, Cond.selects RX6 yX6_tellSeen yX6_tellSeen, Cond.initialized RX6, Cond.code yX6_tellSeen cX6_tellSeen 4 none, Cond.fieldLink RX6 11 "SaidInWinter$Lake" "cells" "[LSaidInWinter$Cell;", Cond.methodLink RX6 79 yX2_oathsSeen, Cond.instanceMethod yX2_oathsSeen, Cond.selects RX2 yX2_oathsSeen yX2_oathsSeen, Cond.initialized RX2, Cond.code yX2_oathsSeen cX2_oathsSeen 6 (some .int), Cond.fieldLink RX2 30 "SaidInWinter$Cell" "layers" "I", Cond.methodLink RX2 78 Lib.Math.max.name, Cond.static Lib.Math.max.name, Cond.initialized "java/lang/Math", Cond.code Lib.Math.max.name Lib.Math.max.code 2 (some .int), Cond.methodLink RX2 38 yX2_thickAt, Cond.instanceMethod yX2_thickAt]
def wsX11_seen_r2 : List Cond := [Cond.selects RX2 yX2_thickAt yX2_thickAt, Cond.code yX2_thickAt cX2_thickAt 2 (some .int), Cond.fieldLink RX2 21 "SaidInWinter$Cell" "thick" "[I", Cond.methodLink RX2 34 yX2_has, Cond.instanceMethod yX2_has, Cond.selects RX2 yX2_has yX2_has, Cond.code yX2_has cX2_has 2 (some .boolean), Cond.methodLink RX2 45 yX2_lightAt, Cond.instanceMethod yX2_lightAt, Cond.selects RX2 yX2_lightAt yX2_lightAt, Cond.code yX2_lightAt cX2_lightAt 2 (some .int), Cond.fieldLink RX2 27 "SaidInWinter$Cell" "light" "[I", Cond.methodLink RX2 48 yX2_oathAt, Cond.instanceMethod yX2_oathAt, Cond.selects RX2 yX2_oathAt yX2_oathAt, Cond.code yX2_oathAt cX2_oathAt 2 (some .int), Cond.fieldLink RX2 15 "SaidInWinter$Cell" "oath" "[I", Cond.methodLink RX11 142 yX11_seenInAll, Cond.instanceMethod yX11_seenInAll, Cond.selects RX11 yX11_seenInAll yX11_seenInAll, Cond.code yX11_seenInAll cX11_seenInAll 4 (some .int)]
def wsX11_seen : List Cond := .code yX11_seen cX11_seen 3 (some .int) :: ((wsX11_seen_r1 ++ wsX11_seen_r2) ++ wsX110 ++ wsX60 ++ wsX20)
def wsJ6_bitCount_0f7a4 : List Cond := .code yJ6_bitCount_0f7a4 cJ6_bitCount_0f7a4 1 (some .int) :: ([.constant RJ6 265 (1431655765), .constant RJ6 266 (858993459), .constant RJ6 267 (252645135)])
def wsX11_holes_r1 : List Cond := [Cond.fieldLink RX11 42 "SaidInWinter" "now" "LSaidInWinter$Lake;", Cond.fieldLink RX11 59 "SaidInWinter" "seenIn" "[I", Cond.methodLink RX11 89 yX11_within, Cond.static yX11_within, Cond.initialized RX11, Cond.code yX11_within cX11_within 3 (some .boolean), Cond.methodLink RX11 138 yX6_tellSeen, Cond.instanceMethod yX6_tellSeen, Cond.selects RX6 yX6_tellSeen yX6_tellSeen, Cond.initialized RX6, Cond.code yX6_tellSeen cX6_tellSeen 4 none, Cond.fieldLink RX6 11 "SaidInWinter$Lake" "cells" "[LSaidInWinter$Cell;", Cond.methodLink RX6 79 yX2_oathsSeen, Cond.instanceMethod yX2_oathsSeen, Cond.selects RX2 yX2_oathsSeen yX2_oathsSeen, Cond.initialized RX2, Cond.code yX2_oathsSeen cX2_oathsSeen 6 (some .int), Cond.fieldLink RX2 30 "SaidInWinter$Cell" "layers" "I", Cond.methodLink RX2 78 Lib.Math.max.name, Cond.static Lib.Math.max.name, Cond.initialized "java/lang/Math", Cond.code Lib.Math.max.name Lib.Math.max.code 2 (some .int), Cond.methodLink RX2 38 yX2_thickAt, Cond.instanceMethod yX2_thickAt]
def wsX11_holes_r2 : List Cond := [Cond.selects RX2 yX2_thickAt yX2_thickAt, Cond.code yX2_thickAt cX2_thickAt 2 (some .int), Cond.fieldLink RX2 21 "SaidInWinter$Cell" "thick" "[I", Cond.methodLink RX2 34 yX2_has, Cond.instanceMethod yX2_has, Cond.selects RX2 yX2_has yX2_has, Cond.code yX2_has cX2_has 2 (some .boolean), Cond.methodLink RX2 45 yX2_lightAt, Cond.instanceMethod yX2_lightAt, Cond.selects RX2 yX2_lightAt yX2_lightAt, Cond.code yX2_lightAt cX2_lightAt 2 (some .int), Cond.fieldLink RX2 27 "SaidInWinter$Cell" "light" "[I", Cond.methodLink RX2 48 yX2_oathAt, Cond.instanceMethod yX2_oathAt, Cond.selects RX2 yX2_oathAt yX2_oathAt, Cond.code yX2_oathAt cX2_oathAt 2 (some .int), Cond.fieldLink RX2 15 "SaidInWinter$Cell" "oath" "[I", Cond.methodLink RX11 145 yJ6_bitCount_0f7a4, Cond.static yJ6_bitCount_0f7a4, Cond.initialized RJ6, Cond.code yJ6_bitCount_0f7a4 cJ6_bitCount_0f7a4 1 (some .int), Cond.constant RJ6 265 (1431655765), Cond.constant RJ6 266 (858993459), Cond.constant RJ6 267 (252645135)]
def wsX11_holes_r3 : List Cond := [Cond.methodLink RX11 142 yX11_seenInAll, Cond.instanceMethod yX11_seenInAll, Cond.selects RX11 yX11_seenInAll yX11_seenInAll, Cond.code yX11_seenInAll cX11_seenInAll 4 (some .int)]
def wsX11_holes : List Cond := .code yX11_holes cX11_holes 6 (some .int) :: ((wsX11_holes_r1 ++ (wsX11_holes_r2 ++ wsX11_holes_r3)) ++ wsX110 ++ wsX60 ++ wsX20)
def wsX11_lasts_r1 : List Cond := [Cond.fieldLink RX11 42 "SaidInWinter" "now" "LSaidInWinter$Lake;", Cond.methodLink RX11 85 yX6_cellAt, Cond.instanceMethod yX6_cellAt, Cond.selects RX6 yX6_cellAt yX6_cellAt, Cond.initialized RX6, Cond.code yX6_cellAt cX6_cellAt 2 (some (.object "SaidInWinter$Cell")), Cond.fieldLink RX6 11 "SaidInWinter$Lake" "cells" "[LSaidInWinter$Cell;", Cond.static yX11_within, Cond.initialized RX11, Cond.code yX11_within cX11_within 3 (some .boolean), Cond.methodLink RX11 117 yX2_has, Cond.instanceMethod yX2_has, Cond.selects RX2 yX2_has yX2_has, Cond.initialized RX2, Cond.code yX2_has cX2_has 2 (some .boolean), Cond.fieldLink RX2 30 "SaidInWinter$Cell" "layers" "I", Cond.methodLink RX11 150 yX2_daysOf, Cond.instanceMethod yX2_daysOf, Cond.selects RX2 yX2_daysOf yX2_daysOf, Cond.code yX2_daysOf cX2_daysOf 5 (some .int), Cond.methodLink RX2 78 Lib.Math.max.name, Cond.static Lib.Math.max.name, Cond.initialized "java/lang/Math", Cond.code Lib.Math.max.name Lib.Math.max.code 2 (some .int)]
def wsX11_lasts_r2 : List Cond := [Cond.methodLink RX2 67 yX2_meltsAt, Cond.instanceMethod yX2_meltsAt, Cond.selects RX2 yX2_meltsAt yX2_meltsAt, Cond.code yX2_meltsAt cX2_meltsAt 2 (some .int), Cond.fieldLink RX2 24 "SaidInWinter$Cell" "melts" "[I", Cond.methodLink RX2 34 yX2_has, Cond.methodLink RX2 38 yX2_thickAt, Cond.instanceMethod yX2_thickAt, Cond.selects RX2 yX2_thickAt yX2_thickAt, Cond.code yX2_thickAt cX2_thickAt 2 (some .int), Cond.fieldLink RX2 21 "SaidInWinter$Cell" "thick" "[I"]
def wsX11_lasts : List Cond := .code yX11_lasts cX11_lasts 4 (some .int) :: ((wsX11_lasts_r1 ++ wsX11_lasts_r2) ++ wsX110 ++ wsX60 ++ wsX20)
def wsX11_frost_r1 : List Cond := [Cond.fieldLink RX11 31 "SaidInWinter" "kinds" "[LSaidInWinter$Layer;", Cond.methodLink RX11 153 yX11_isKindAndOath, Cond.static yX11_isKindAndOath, Cond.initialized RX11, Cond.code yX11_isKindAndOath cX11_isKindAndOath 2 (some .boolean), Cond.methodLink RX11 89 yX11_within, Cond.static yX11_within, Cond.code yX11_within cX11_within 3 (some .boolean), Cond.methodLink RX11 157 yX11_kindOf, Cond.static yX11_kindOf, Cond.code yX11_kindOf cX11_kindOf 2 (some (.object "SaidInWinter$Layer")), Cond.methodLink RX11 161 ⟨"SaidInWinter$Layer", "fingersIn", "(II)I"⟩, Cond.sameMethod "SaidInWinter$Layer" "SaidInWinter$Layer" "fingersIn" "(II)I", Cond.instanceMethod ⟨"SaidInWinter$Layer", "fingersIn", "(II)I"⟩, Cond.selects RX0 ⟨"SaidInWinter$Layer", "fingersIn", "(II)I"⟩ yX0_fingersIn, Cond.instanceMethod yX0_fingersIn, Cond.initialized RX0, Cond.code yX0_fingersIn cX0_fingersIn 3 (some .int), Cond.methodLink RX0 7 yX3_fingersIn, Cond.sameMethod "SaidInWinter$Clear" "SaidInWinter$Clear" "fingersIn" "(II)I", Cond.superclass RX0 RX3, Cond.instanceMethod yX3_fingersIn, Cond.initialized RX3, Cond.code yX3_fingersIn cX3_fingersIn 3 (some .int)]
def wsX11_frost_r2 : List Cond := [Cond.methodLink RX3 7 yX7_fingersIn, Cond.superclass RX3 RX7, Cond.instanceMethod yX7_fingersIn, Cond.initialized RX7, Cond.code yX7_fingersIn cX7_fingersIn 3 (some .int), Cond.selects RX1 ⟨"SaidInWinter$Layer", "fingersIn", "(II)I"⟩ yX3_fingersIn, Cond.selects RX3 ⟨"SaidInWinter$Layer", "fingersIn", "(II)I"⟩ yX3_fingersIn, Cond.selects RX4 ⟨"SaidInWinter$Layer", "fingersIn", "(II)I"⟩ yX10_fingersIn, Cond.instanceMethod yX10_fingersIn, Cond.initialized RX10, Cond.code yX10_fingersIn cX10_fingersIn 3 (some .int), Cond.methodLink RX10 7 yX7_fingersIn, Cond.superclass RX10 RX7, Cond.selects RX5 ⟨"SaidInWinter$Layer", "fingersIn", "(II)I"⟩ yX5_fingersIn, Cond.instanceMethod yX5_fingersIn, Cond.initialized RX5, Cond.code yX5_fingersIn cX5_fingersIn 3 (some .int), Cond.methodLink RX5 11 Lib.Math.max.name, Cond.static Lib.Math.max.name, Cond.initialized "java/lang/Math", Cond.code Lib.Math.max.name Lib.Math.max.code 2 (some .int), Cond.methodLink RX5 7 yX7_fingersIn, Cond.superclass RX5 RX7, Cond.methodLink RX11 161 yX7_fingersIn]
def wsX11_frost_r3 : List Cond := [Cond.selects RX7 yX7_fingersIn yX7_fingersIn, Cond.selects RX8 ⟨"SaidInWinter$Layer", "fingersIn", "(II)I"⟩ yX8_fingersIn, Cond.instanceMethod yX8_fingersIn, Cond.initialized RX8, Cond.code yX8_fingersIn cX8_fingersIn 3 (some .int), Cond.methodLink RX8 7 yX10_fingersIn, Cond.sameMethod "SaidInWinter$Snow" "SaidInWinter$Snow" "fingersIn" "(II)I", Cond.superclass RX8 RX10, Cond.selects RX10 ⟨"SaidInWinter$Layer", "fingersIn", "(II)I"⟩ yX10_fingersIn, Cond.methodLink RX11 164 ⟨"SaidInWinter$Layer", "melts", "(I)I"⟩, Cond.sameMethod "SaidInWinter$Layer" "SaidInWinter$Layer" "melts" "(I)I", Cond.instanceMethod ⟨"SaidInWinter$Layer", "melts", "(I)I"⟩, Cond.selects RX0 ⟨"SaidInWinter$Layer", "melts", "(I)I"⟩ yX3_melts, Cond.instanceMethod yX3_melts, Cond.code yX3_melts cX3_melts 2 (some .int), Cond.methodLink RX3 11 yX7_melts, Cond.instanceMethod yX7_melts, Cond.code yX7_melts cX7_melts 2 (some .int), Cond.selects RX1 ⟨"SaidInWinter$Layer", "melts", "(I)I"⟩ yX1_melts, Cond.instanceMethod yX1_melts, Cond.initialized RX1, Cond.code yX1_melts cX1_melts 2 (some .int), Cond.methodLink RX1 7 yX3_melts, Cond.sameMethod "SaidInWinter$Clear" "SaidInWinter$Clear" "melts" "(I)I"]
def wsX11_frost_r4 : List Cond := [Cond.superclass RX1 RX3, Cond.selects RX3 ⟨"SaidInWinter$Layer", "melts", "(I)I"⟩ yX3_melts, Cond.selects RX4 ⟨"SaidInWinter$Layer", "melts", "(I)I"⟩ yX4_melts, Cond.instanceMethod yX4_melts, Cond.initialized RX4, Cond.code yX4_melts cX4_melts 2 (some .int), Cond.methodLink RX4 7 yX10_melts, Cond.sameMethod "SaidInWinter$Snow" "SaidInWinter$Snow" "melts" "(I)I", Cond.superclass RX4 RX10, Cond.instanceMethod yX10_melts, Cond.code yX10_melts cX10_melts 2 (some .int), Cond.methodLink RX10 11 yX7_melts, Cond.selects RX5 ⟨"SaidInWinter$Layer", "melts", "(I)I"⟩ yX5_melts, Cond.instanceMethod yX5_melts, Cond.code yX5_melts cX5_melts 2 (some .int), Cond.methodLink RX5 16 yX7_melts, Cond.methodLink RX11 164 yX7_melts, Cond.selects RX7 yX7_melts yX7_melts, Cond.selects RX8 ⟨"SaidInWinter$Layer", "melts", "(I)I"⟩ yX8_melts, Cond.instanceMethod yX8_melts, Cond.code yX8_melts cX8_melts 2 (some .int), Cond.methodLink RX8 11 yX10_melts, Cond.selects RX10 ⟨"SaidInWinter$Layer", "melts", "(I)I"⟩ yX10_melts]
def wsX11_frost : List Cond := .code yX11_frost cX11_frost 6 (some .int) :: ((wsX11_frost_r1 ++ (wsX11_frost_r2 ++ (wsX11_frost_r3 ++ wsX11_frost_r4))) ++ wsX110)
def wsX11_where_r1 : List Cond := [Cond.fieldLink RX11 42 "SaidInWinter" "now" "LSaidInWinter$Lake;", Cond.methodLink RX11 89 yX11_within, Cond.static yX11_within, Cond.initialized RX11, Cond.code yX11_within cX11_within 3 (some .boolean), Cond.methodLink RX11 167 yX6_cellsWith, Cond.instanceMethod yX6_cellsWith, Cond.selects RX6 yX6_cellsWith yX6_cellsWith, Cond.initialized RX6, Cond.code yX6_cellsWith cX6_cellsWith 5 (some .int), Cond.fieldLink RX6 11 "SaidInWinter$Lake" "cells" "[LSaidInWinter$Cell;", Cond.methodLink RX6 82 yX2_keepsOath, Cond.instanceMethod yX2_keepsOath, Cond.selects RX2 yX2_keepsOath yX2_keepsOath, Cond.initialized RX2, Cond.code yX2_keepsOath cX2_keepsOath 4 (some .boolean), Cond.fieldLink RX2 30 "SaidInWinter$Cell" "layers" "I", Cond.methodLink RX2 48 yX2_oathAt, Cond.instanceMethod yX2_oathAt, Cond.selects RX2 yX2_oathAt yX2_oathAt, Cond.code yX2_oathAt cX2_oathAt 2 (some .int), Cond.fieldLink RX2 15 "SaidInWinter$Cell" "oath" "[I", Cond.methodLink RX2 34 yX2_has, Cond.instanceMethod yX2_has]
def wsX11_where_r2 : List Cond := [Cond.selects RX2 yX2_has yX2_has, Cond.code yX2_has cX2_has 2 (some .boolean), Cond.methodLink RX2 81 yX2_daysOf, Cond.instanceMethod yX2_daysOf, Cond.selects RX2 yX2_daysOf yX2_daysOf, Cond.code yX2_daysOf cX2_daysOf 5 (some .int), Cond.methodLink RX2 78 Lib.Math.max.name, Cond.static Lib.Math.max.name, Cond.initialized "java/lang/Math", Cond.code Lib.Math.max.name Lib.Math.max.code 2 (some .int), Cond.methodLink RX2 67 yX2_meltsAt, Cond.instanceMethod yX2_meltsAt, Cond.selects RX2 yX2_meltsAt yX2_meltsAt, Cond.code yX2_meltsAt cX2_meltsAt 2 (some .int), Cond.fieldLink RX2 24 "SaidInWinter$Cell" "melts" "[I", Cond.methodLink RX2 38 yX2_thickAt, Cond.instanceMethod yX2_thickAt, Cond.selects RX2 yX2_thickAt yX2_thickAt, Cond.code yX2_thickAt cX2_thickAt 2 (some .int), Cond.fieldLink RX2 21 "SaidInWinter$Cell" "thick" "[I"]
def wsX11_where : List Cond := .code yX11_where cX11_where 3 (some .int) :: ((wsX11_where_r1 ++ wsX11_where_r2) ++ wsX110 ++ wsX60 ++ wsX20)
def wsX11_thin_r1 : List Cond := [Cond.fieldLink RX11 42 "SaidInWinter" "now" "LSaidInWinter$Lake;", Cond.methodLink RX11 89 yX11_within, Cond.static yX11_within, Cond.initialized RX11, Cond.code yX11_within cX11_within 3 (some .boolean), Cond.methodLink RX11 170 yX6_thinLayers, Cond.instanceMethod yX6_thinLayers, Cond.selects RX6 yX6_thinLayers yX6_thinLayers, Cond.initialized RX6, Cond.code yX6_thinLayers cX6_thinLayers 4 (some .int), Cond.fieldLink RX6 11 "SaidInWinter$Lake" "cells" "[LSaidInWinter$Cell;", Cond.methodLink RX6 91 yX6_isThin, Cond.instanceMethod yX6_isThin, Cond.selects RX6 yX6_isThin yX6_isThin, Cond.code yX6_isThin cX6_isThin 8 (some .boolean), Cond.methodLink RX6 76 yX2_winterAt, Cond.instanceMethod yX2_winterAt, Cond.selects RX2 yX2_winterAt yX2_winterAt, Cond.initialized RX2, Cond.code yX2_winterAt cX2_winterAt 2 (some .int), Cond.fieldLink RX2 18 "SaidInWinter$Cell" "frozenIn" "[I", Cond.methodLink RX2 34 yX2_has, Cond.instanceMethod yX2_has, Cond.selects RX2 yX2_has yX2_has]
def wsX11_thin_r2 : List Cond := [Cond.code yX2_has cX2_has 2 (some .boolean), Cond.fieldLink RX2 30 "SaidInWinter$Cell" "layers" "I", Cond.methodLink RX6 85 yX2_thickAt, Cond.instanceMethod yX2_thickAt, Cond.selects RX2 yX2_thickAt yX2_thickAt, Cond.code yX2_thickAt cX2_thickAt 2 (some .int), Cond.fieldLink RX2 21 "SaidInWinter$Cell" "thick" "[I", Cond.methodLink RX6 88 yX2_lowestThickOf, Cond.instanceMethod yX2_lowestThickOf, Cond.selects RX2 yX2_lowestThickOf yX2_lowestThickOf, Cond.code yX2_lowestThickOf cX2_lowestThickOf 3 (some .int), Cond.methodLink RX2 51 yX2_winterAt, Cond.methodLink RX2 38 yX2_thickAt, Cond.methodLink RX11 173 yX6_firstThin, Cond.instanceMethod yX6_firstThin, Cond.selects RX6 yX6_firstThin yX6_firstThin, Cond.code yX6_firstThin cX6_firstThin 3 (some .int)]
def wsX11_thin : List Cond := .code yX11_thin cX11_thin 2 (some .int) :: ((wsX11_thin_r1 ++ wsX11_thin_r2) ++ wsX110 ++ wsX60 ++ wsX20)
def wsX11_spans_r1 : List Cond := [Cond.fieldLink RX11 42 "SaidInWinter" "now" "LSaidInWinter$Lake;", Cond.methodLink RX11 85 yX6_cellAt, Cond.instanceMethod yX6_cellAt, Cond.selects RX6 yX6_cellAt yX6_cellAt, Cond.initialized RX6, Cond.code yX6_cellAt cX6_cellAt 2 (some (.object "SaidInWinter$Cell")), Cond.fieldLink RX6 11 "SaidInWinter$Lake" "cells" "[LSaidInWinter$Cell;", Cond.static yX11_within, Cond.initialized RX11, Cond.code yX11_within cX11_within 3 (some .boolean), Cond.methodLink RX11 89 yX11_within, Cond.methodLink RX11 176 yX2_layerBehind, Cond.instanceMethod yX2_layerBehind, Cond.selects RX2 yX2_layerBehind yX2_layerBehind, Cond.initialized RX2, Cond.code yX2_layerBehind cX2_layerBehind 4 (some .int), Cond.fieldLink RX2 30 "SaidInWinter$Cell" "layers" "I", Cond.methodLink RX2 38 yX2_thickAt, Cond.instanceMethod yX2_thickAt, Cond.selects RX2 yX2_thickAt yX2_thickAt, Cond.code yX2_thickAt cX2_thickAt 2 (some .int), Cond.fieldLink RX2 21 "SaidInWinter$Cell" "thick" "[I", Cond.methodLink RX2 34 yX2_has, Cond.instanceMethod yX2_has]
def wsX11_spans_r2 : List Cond := [Cond.selects RX2 yX2_has yX2_has, Cond.code yX2_has cX2_has 2 (some .boolean), Cond.methodLink RX11 179 yX2_winterAt, Cond.instanceMethod yX2_winterAt, Cond.selects RX2 yX2_winterAt yX2_winterAt, Cond.code yX2_winterAt cX2_winterAt 2 (some .int), Cond.fieldLink RX2 18 "SaidInWinter$Cell" "frozenIn" "[I"]
def wsX11_spans : List Cond := .code yX11_spans cX11_spans 5 (some .int) :: ((wsX11_spans_r1 ++ wsX11_spans_r2) ++ wsX110 ++ wsX60 ++ wsX20)
def wsX11_disorder : List Cond := .code yX11_disorder cX11_disorder 1 (some .int) :: ([.fieldLink RX11 42 "SaidInWinter" "now" "LSaidInWinter$Lake;", .methodLink RX11 182 yX6_allUnordered, .instanceMethod yX6_allUnordered, .selects RX6 yX6_allUnordered yX6_allUnordered, .initialized RX6, .code yX6_allUnordered cX6_allUnordered 6 (some .int), .fieldLink RX6 11 "SaidInWinter$Lake" "cells" "[LSaidInWinter$Cell;", .methodLink RX6 70 yX2_unorderedPairs, .instanceMethod yX2_unorderedPairs, .selects RX2 yX2_unorderedPairs yX2_unorderedPairs, .initialized RX2, .code yX2_unorderedPairs cX2_unorderedPairs 3 (some .int), .fieldLink RX2 30 "SaidInWinter$Cell" "layers" "I", .methodLink RX2 51 yX2_winterAt, .instanceMethod yX2_winterAt, .selects RX2 yX2_winterAt yX2_winterAt, .code yX2_winterAt cX2_winterAt 2 (some .int), .fieldLink RX2 18 "SaidInWinter$Cell" "frozenIn" "[I", .methodLink RX2 34 yX2_has, .instanceMethod yX2_has, .selects RX2 yX2_has yX2_has, .code yX2_has cX2_has 2 (some .boolean)] ++ wsX110 ++ wsX60 ++ wsX20)
def wsX11_leastNext : List Cond := .code yX11_leastNext cX11_leastNext 5 (some .int) :: ([.fieldLink RX11 63 "SaidInWinter" "ahead" "[I"] ++ wsX110)
def wsX11_order_r1 : List Cond := [Cond.fieldLink RX11 42 "SaidInWinter" "now" "LSaidInWinter$Lake;", Cond.fieldLink RX11 63 "SaidInWinter" "ahead" "[I", Cond.methodLink RX11 89 yX11_within, Cond.static yX11_within, Cond.initialized RX11, Cond.code yX11_within cX11_within 3 (some .boolean), Cond.methodLink RX11 185 yX6_tellAllAhead, Cond.instanceMethod yX6_tellAllAhead, Cond.selects RX6 yX6_tellAllAhead yX6_tellAllAhead, Cond.initialized RX6, Cond.code yX6_tellAllAhead cX6_tellAllAhead 6 none, Cond.fieldLink RX6 11 "SaidInWinter$Lake" "cells" "[LSaidInWinter$Cell;", Cond.methodLink RX6 94 yJ7_fill_53178, Cond.static yJ7_fill_53178, Cond.initialized RJ7, Cond.code yJ7_fill_53178 cJ7_fill_53178 4 none, Cond.methodLink RX6 100 yX2_tellAhead, Cond.instanceMethod yX2_tellAhead, Cond.selects RX2 yX2_tellAhead yX2_tellAhead, Cond.initialized RX2, Cond.code yX2_tellAhead cX2_tellAhead 5 none, Cond.fieldLink RX2 30 "SaidInWinter$Cell" "layers" "I", Cond.methodLink RX2 48 yX2_oathAt, Cond.instanceMethod yX2_oathAt]
def wsX11_order_r2 : List Cond := [Cond.selects RX2 yX2_oathAt yX2_oathAt, Cond.code yX2_oathAt cX2_oathAt 2 (some .int), Cond.fieldLink RX2 15 "SaidInWinter$Cell" "oath" "[I", Cond.methodLink RX2 34 yX2_has, Cond.instanceMethod yX2_has, Cond.selects RX2 yX2_has yX2_has, Cond.code yX2_has cX2_has 2 (some .boolean), Cond.methodLink RX11 189 yX6_allOaths, Cond.instanceMethod yX6_allOaths, Cond.selects RX6 yX6_allOaths yX6_allOaths, Cond.code yX6_allOaths cX6_allOaths 6 (some .int), Cond.methodLink RX6 67 yX2_oaths, Cond.instanceMethod yX2_oaths, Cond.selects RX2 yX2_oaths yX2_oaths, Cond.code yX2_oaths cX2_oaths 3 (some .int), Cond.methodLink RX11 145 yJ6_bitCount_0f7a4, Cond.static yJ6_bitCount_0f7a4, Cond.initialized RJ6, Cond.code yJ6_bitCount_0f7a4 cJ6_bitCount_0f7a4 1 (some .int), Cond.constant RJ6 265 (1431655765), Cond.constant RJ6 266 (858993459), Cond.constant RJ6 267 (252645135), Cond.methodLink RX11 192 yX11_leastNext, Cond.instanceMethod yX11_leastNext]
def wsX11_order_r3 : List Cond := [Cond.selects RX11 yX11_leastNext yX11_leastNext, Cond.code yX11_leastNext cX11_leastNext 5 (some .int)]
def wsX11_order : List Cond := .code yX11_order cX11_order 7 (some .int) :: ((wsX11_order_r1 ++ (wsX11_order_r2 ++ wsX11_order_r3)) ++ wsX110 ++ wsX60 ++ wsX20)
def wsX11_alikeFingers : List Cond := .code yX11_alikeFingers cX11_alikeFingers 8 (some .int) :: ([.methodLink RX11 308 Lib.Math.min.name, .static Lib.Math.min.name, .initialized "java/lang/Math", .code Lib.Math.min.name Lib.Math.min.code 2 (some .int), .methodLink RX11 302 yX2_thickAt, .instanceMethod yX2_thickAt, .selects RX2 yX2_thickAt yX2_thickAt, .initialized RX2, .code yX2_thickAt cX2_thickAt 2 (some .int), .fieldLink RX2 21 "SaidInWinter$Cell" "thick" "[I", .methodLink RX2 34 yX2_has, .instanceMethod yX2_has, .selects RX2 yX2_has yX2_has, .code yX2_has cX2_has 2 (some .boolean), .fieldLink RX2 30 "SaidInWinter$Cell" "layers" "I", .methodLink RX11 305 yX2_oathAt, .instanceMethod yX2_oathAt, .selects RX2 yX2_oathAt yX2_oathAt, .code yX2_oathAt cX2_oathAt 2 (some .int), .fieldLink RX2 15 "SaidInWinter$Cell" "oath" "[I"] ++ wsX20)
def wsX11_joined_r1 : List Cond := [Cond.fieldLink RX11 42 "SaidInWinter" "now" "LSaidInWinter$Lake;", Cond.methodLink RX11 85 yX6_cellAt, Cond.instanceMethod yX6_cellAt, Cond.selects RX6 yX6_cellAt yX6_cellAt, Cond.initialized RX6, Cond.code yX6_cellAt cX6_cellAt 2 (some (.object "SaidInWinter$Cell")), Cond.fieldLink RX6 11 "SaidInWinter$Lake" "cells" "[LSaidInWinter$Cell;", Cond.static yX11_within, Cond.initialized RX11, Cond.code yX11_within cX11_within 3 (some .boolean), Cond.methodLink RX11 195 yX11_alikeFingers, Cond.static yX11_alikeFingers, Cond.code yX11_alikeFingers cX11_alikeFingers 8 (some .int), Cond.methodLink RX11 308 Lib.Math.min.name, Cond.static Lib.Math.min.name, Cond.initialized "java/lang/Math", Cond.code Lib.Math.min.name Lib.Math.min.code 2 (some .int), Cond.methodLink RX11 302 yX2_thickAt, Cond.instanceMethod yX2_thickAt, Cond.selects RX2 yX2_thickAt yX2_thickAt, Cond.initialized RX2, Cond.code yX2_thickAt cX2_thickAt 2 (some .int), Cond.fieldLink RX2 21 "SaidInWinter$Cell" "thick" "[I", Cond.methodLink RX2 34 yX2_has]
def wsX11_joined_r2 : List Cond := [Cond.instanceMethod yX2_has, Cond.selects RX2 yX2_has yX2_has, Cond.code yX2_has cX2_has 2 (some .boolean), Cond.fieldLink RX2 30 "SaidInWinter$Cell" "layers" "I", Cond.methodLink RX11 305 yX2_oathAt, Cond.instanceMethod yX2_oathAt, Cond.selects RX2 yX2_oathAt yX2_oathAt, Cond.code yX2_oathAt cX2_oathAt 2 (some .int), Cond.fieldLink RX2 15 "SaidInWinter$Cell" "oath" "[I"]
def wsX11_joined : List Cond := .code yX11_joined cX11_joined 5 (some .int) :: ((wsX11_joined_r1 ++ wsX11_joined_r2) ++ wsX110 ++ wsX60 ++ wsX20)
def wsX11_drawBelow : List Cond := .code yX11_drawBelow cX11_drawBelow 2 (some .int) :: ([.fieldLink RX11 203 "SaidInWinter" "seed" "I", .constant RX11 314 (1103515245), .constant RX11 315 (2147483647), .constant RX11 316 (65536)] ++ wsX110)
def wsX11_freezeDrawn_r1 : List Cond := [Cond.fieldLink RX11 49 "SaidInWinter" "mind" "LSaidInWinter$Lake;", Cond.methodLink RX11 206 yX11_drawBelow, Cond.instanceMethod yX11_drawBelow, Cond.selects RX11 yX11_drawBelow yX11_drawBelow, Cond.initialized RX11, Cond.code yX11_drawBelow cX11_drawBelow 2 (some .int), Cond.fieldLink RX11 203 "SaidInWinter" "seed" "I", Cond.constant RX11 314 (1103515245), Cond.constant RX11 315 (2147483647), Cond.constant RX11 316 (65536), Cond.methodLink RX11 99 yX6_freezeIn, Cond.instanceMethod yX6_freezeIn, Cond.selects RX6 yX6_freezeIn yX6_freezeIn, Cond.initialized RX6, Cond.code yX6_freezeIn cX6_freezeIn 6 (some .int), Cond.fieldLink RX6 17 "SaidInWinter$Lake" "kinds" "[LSaidInWinter$Layer;", Cond.fieldLink RX6 26 "SaidInWinter$Lake" "winter" "I", Cond.methodLink RX6 34 yX6_cellAt, Cond.instanceMethod yX6_cellAt, Cond.selects RX6 yX6_cellAt yX6_cellAt, Cond.code yX6_cellAt cX6_cellAt 2 (some (.object "SaidInWinter$Cell")), Cond.fieldLink RX6 11 "SaidInWinter$Lake" "cells" "[LSaidInWinter$Cell;", Cond.static yX11_within, Cond.code yX11_within cX11_within 3 (some .boolean)]
def wsX11_freezeDrawn_r2 : List Cond := [Cond.static yX11_isKindAndOath, Cond.code yX11_isKindAndOath cX11_isKindAndOath 2 (some .boolean), Cond.methodLink RX11 89 yX11_within, Cond.static yX11_kindOf, Cond.code yX11_kindOf cX11_kindOf 2 (some (.object "SaidInWinter$Layer")), Cond.methodLink RX6 46 yX2_freezeOn, Cond.instanceMethod yX2_freezeOn, Cond.selects RX2 yX2_freezeOn yX2_freezeOn, Cond.initialized RX2, Cond.code yX2_freezeOn cX2_freezeOn 7 (some .int), Cond.fieldLink RX2 30 "SaidInWinter$Cell" "layers" "I", Cond.fieldLink RX2 9 "SaidInWinter$Cell" "kind" "[I", Cond.fieldLink RX2 15 "SaidInWinter$Cell" "oath" "[I", Cond.fieldLink RX2 18 "SaidInWinter$Cell" "frozenIn" "[I", Cond.fieldLink RX2 21 "SaidInWinter$Cell" "thick" "[I", Cond.fieldLink RX2 24 "SaidInWinter$Cell" "melts" "[I", Cond.fieldLink RX2 27 "SaidInWinter$Cell" "light" "[I", Cond.methodLink RX2 57 ⟨"SaidInWinter$Layer", "fingersIn", "(II)I"⟩, Cond.sameMethod "SaidInWinter$Layer" "SaidInWinter$Layer" "fingersIn" "(II)I", Cond.instanceMethod ⟨"SaidInWinter$Layer", "fingersIn", "(II)I"⟩, Cond.selects RX0 ⟨"SaidInWinter$Layer", "fingersIn", "(II)I"⟩ yX0_fingersIn, Cond.instanceMethod yX0_fingersIn, Cond.initialized RX0, Cond.code yX0_fingersIn cX0_fingersIn 3 (some .int)]
def wsX11_freezeDrawn_r3 : List Cond := [Cond.methodLink RX0 7 yX3_fingersIn, Cond.sameMethod "SaidInWinter$Clear" "SaidInWinter$Clear" "fingersIn" "(II)I", Cond.superclass RX0 RX3, Cond.instanceMethod yX3_fingersIn, Cond.initialized RX3, Cond.code yX3_fingersIn cX3_fingersIn 3 (some .int), Cond.methodLink RX3 7 yX7_fingersIn, Cond.superclass RX3 RX7, Cond.instanceMethod yX7_fingersIn, Cond.initialized RX7, Cond.code yX7_fingersIn cX7_fingersIn 3 (some .int), Cond.selects RX1 ⟨"SaidInWinter$Layer", "fingersIn", "(II)I"⟩ yX3_fingersIn, Cond.selects RX3 ⟨"SaidInWinter$Layer", "fingersIn", "(II)I"⟩ yX3_fingersIn, Cond.selects RX4 ⟨"SaidInWinter$Layer", "fingersIn", "(II)I"⟩ yX10_fingersIn, Cond.instanceMethod yX10_fingersIn, Cond.initialized RX10, Cond.code yX10_fingersIn cX10_fingersIn 3 (some .int), Cond.methodLink RX10 7 yX7_fingersIn, Cond.superclass RX10 RX7, Cond.selects RX5 ⟨"SaidInWinter$Layer", "fingersIn", "(II)I"⟩ yX5_fingersIn, Cond.instanceMethod yX5_fingersIn, Cond.initialized RX5, Cond.code yX5_fingersIn cX5_fingersIn 3 (some .int), Cond.methodLink RX5 11 Lib.Math.max.name]
def wsX11_freezeDrawn_r4 : List Cond := [Cond.static Lib.Math.max.name, Cond.initialized "java/lang/Math", Cond.code Lib.Math.max.name Lib.Math.max.code 2 (some .int), Cond.methodLink RX5 7 yX7_fingersIn, Cond.superclass RX5 RX7, Cond.methodLink RX2 57 yX7_fingersIn, Cond.selects RX7 yX7_fingersIn yX7_fingersIn, Cond.selects RX8 ⟨"SaidInWinter$Layer", "fingersIn", "(II)I"⟩ yX8_fingersIn, Cond.instanceMethod yX8_fingersIn, Cond.initialized RX8, Cond.code yX8_fingersIn cX8_fingersIn 3 (some .int), Cond.methodLink RX8 7 yX10_fingersIn, Cond.sameMethod "SaidInWinter$Snow" "SaidInWinter$Snow" "fingersIn" "(II)I", Cond.superclass RX8 RX10, Cond.selects RX10 ⟨"SaidInWinter$Layer", "fingersIn", "(II)I"⟩ yX10_fingersIn, Cond.methodLink RX2 63 ⟨"SaidInWinter$Layer", "melts", "(I)I"⟩, Cond.sameMethod "SaidInWinter$Layer" "SaidInWinter$Layer" "melts" "(I)I", Cond.instanceMethod ⟨"SaidInWinter$Layer", "melts", "(I)I"⟩, Cond.selects RX0 ⟨"SaidInWinter$Layer", "melts", "(I)I"⟩ yX3_melts, Cond.instanceMethod yX3_melts, Cond.code yX3_melts cX3_melts 2 (some .int), Cond.methodLink RX3 11 yX7_melts, Cond.instanceMethod yX7_melts, Cond.code yX7_melts cX7_melts 2 (some .int)]
def wsX11_freezeDrawn_r5 : List Cond := [Cond.selects RX1 ⟨"SaidInWinter$Layer", "melts", "(I)I"⟩ yX1_melts, Cond.instanceMethod yX1_melts, Cond.initialized RX1, Cond.code yX1_melts cX1_melts 2 (some .int), Cond.methodLink RX1 7 yX3_melts, Cond.sameMethod "SaidInWinter$Clear" "SaidInWinter$Clear" "melts" "(I)I", Cond.superclass RX1 RX3, Cond.selects RX3 ⟨"SaidInWinter$Layer", "melts", "(I)I"⟩ yX3_melts, Cond.selects RX4 ⟨"SaidInWinter$Layer", "melts", "(I)I"⟩ yX4_melts, Cond.instanceMethod yX4_melts, Cond.initialized RX4, Cond.code yX4_melts cX4_melts 2 (some .int), Cond.methodLink RX4 7 yX10_melts, Cond.sameMethod "SaidInWinter$Snow" "SaidInWinter$Snow" "melts" "(I)I", Cond.superclass RX4 RX10, Cond.instanceMethod yX10_melts, Cond.code yX10_melts cX10_melts 2 (some .int), Cond.methodLink RX10 11 yX7_melts, Cond.selects RX5 ⟨"SaidInWinter$Layer", "melts", "(I)I"⟩ yX5_melts, Cond.instanceMethod yX5_melts, Cond.code yX5_melts cX5_melts 2 (some .int), Cond.methodLink RX5 16 yX7_melts, Cond.methodLink RX2 63 yX7_melts, Cond.selects RX7 yX7_melts yX7_melts]
def wsX11_freezeDrawn_r6 : List Cond := [Cond.selects RX8 ⟨"SaidInWinter$Layer", "melts", "(I)I"⟩ yX8_melts, Cond.instanceMethod yX8_melts, Cond.code yX8_melts cX8_melts 2 (some .int), Cond.methodLink RX8 11 yX10_melts, Cond.selects RX10 ⟨"SaidInWinter$Layer", "melts", "(I)I"⟩ yX10_melts, Cond.methodLink RX2 65 ⟨"SaidInWinter$Layer", "light", "(I)I"⟩, Cond.sameMethod "SaidInWinter$Layer" "SaidInWinter$Layer" "light" "(I)I", Cond.instanceMethod ⟨"SaidInWinter$Layer", "light", "(I)I"⟩, Cond.selects RX0 ⟨"SaidInWinter$Layer", "light", "(I)I"⟩ yX0_light, Cond.instanceMethod yX0_light, Cond.code yX0_light cX0_light 2 (some .int), Cond.methodLink RX0 11 yX3_light, Cond.sameMethod "SaidInWinter$Clear" "SaidInWinter$Clear" "light" "(I)I", Cond.instanceMethod yX3_light, Cond.code yX3_light cX3_light 2 (some .int), Cond.methodLink RX3 15 yX7_light, Cond.instanceMethod yX7_light, Cond.code yX7_light cX7_light 2 (some .int), Cond.selects RX1 ⟨"SaidInWinter$Layer", "light", "(I)I"⟩ yX1_light, Cond.instanceMethod yX1_light, Cond.code yX1_light cX1_light 2 (some .int), Cond.methodLink RX1 11 yX3_light, Cond.selects RX3 ⟨"SaidInWinter$Layer", "light", "(I)I"⟩ yX3_light, Cond.selects RX4 ⟨"SaidInWinter$Layer", "light", "(I)I"⟩ yX4_light]
def wsX11_freezeDrawn_r7 : List Cond := [Cond.instanceMethod yX4_light, Cond.code yX4_light cX4_light 2 (some .int), Cond.selects RX5 ⟨"SaidInWinter$Layer", "light", "(I)I"⟩ yX7_light, Cond.methodLink RX2 65 yX7_light, Cond.selects RX7 yX7_light yX7_light, Cond.selects RX8 ⟨"SaidInWinter$Layer", "light", "(I)I"⟩ yX10_light, Cond.instanceMethod yX10_light, Cond.code yX10_light cX10_light 2 (some .int), Cond.methodLink RX10 15 yX7_light, Cond.selects RX10 ⟨"SaidInWinter$Layer", "light", "(I)I"⟩ yX10_light]
def wsX11_freezeDrawn : List Cond := .code yX11_freezeDrawn cX11_freezeDrawn 5 none :: ((wsX11_freezeDrawn_r1 ++ (wsX11_freezeDrawn_r2 ++ (wsX11_freezeDrawn_r3 ++ (wsX11_freezeDrawn_r4 ++ (wsX11_freezeDrawn_r5 ++ (wsX11_freezeDrawn_r6 ++ wsX11_freezeDrawn_r7)))))) ++ wsX110 ++ wsX60 ++ wsX20)
def wsX11_happen_r1 : List Cond := [Cond.fieldLink RX11 49 "SaidInWinter" "mind" "LSaidInWinter$Lake;", Cond.methodLink RX11 103 yX6_thawFor, Cond.instanceMethod yX6_thawFor, Cond.selects RX6 yX6_thawFor yX6_thawFor, Cond.initialized RX6, Cond.code yX6_thawFor cX6_thawFor 8 (some .int), Cond.fieldLink RX6 11 "SaidInWinter$Lake" "cells" "[LSaidInWinter$Cell;", Cond.static yX11_within, Cond.initialized RX11, Cond.code yX11_within cX11_within 3 (some .boolean), Cond.methodLink RX6 53 yX2_warmDay, Cond.instanceMethod yX2_warmDay, Cond.selects RX2 yX2_warmDay yX2_warmDay, Cond.initialized RX2, Cond.code yX2_warmDay cX2_warmDay 2 (some .int), Cond.fieldLink RX2 30 "SaidInWinter$Cell" "layers" "I", Cond.methodLink RX2 70 Lib.Math.min.name, Cond.static Lib.Math.min.name, Cond.initialized "java/lang/Math", Cond.code Lib.Math.min.name Lib.Math.min.code 2 (some .int), Cond.methodLink RX2 34 yX2_has, Cond.instanceMethod yX2_has, Cond.selects RX2 yX2_has yX2_has, Cond.code yX2_has cX2_has 2 (some .boolean)]
def wsX11_happen_r2 : List Cond := [Cond.methodLink RX2 67 yX2_meltsAt, Cond.instanceMethod yX2_meltsAt, Cond.selects RX2 yX2_meltsAt yX2_meltsAt, Cond.code yX2_meltsAt cX2_meltsAt 2 (some .int), Cond.fieldLink RX2 24 "SaidInWinter$Cell" "melts" "[I", Cond.methodLink RX2 38 yX2_thickAt, Cond.instanceMethod yX2_thickAt, Cond.selects RX2 yX2_thickAt yX2_thickAt, Cond.code yX2_thickAt cX2_thickAt 2 (some .int), Cond.fieldLink RX2 21 "SaidInWinter$Cell" "thick" "[I", Cond.methodLink RX2 75 yX2_cutOff, Cond.instanceMethod yX2_cutOff, Cond.selects RX2 yX2_cutOff yX2_cutOff, Cond.code yX2_cutOff cX2_cutOff 6 (some .int), Cond.methodLink RX11 114 yX6_nextWinter, Cond.instanceMethod yX6_nextWinter, Cond.selects RX6 yX6_nextWinter yX6_nextWinter, Cond.code yX6_nextWinter cX6_nextWinter 1 (some .int), Cond.fieldLink RX6 26 "SaidInWinter$Lake" "winter" "I", Cond.methodLink RX11 311 yX11_freezeDrawn, Cond.instanceMethod yX11_freezeDrawn, Cond.selects RX11 yX11_freezeDrawn yX11_freezeDrawn, Cond.code yX11_freezeDrawn cX11_freezeDrawn 5 none, Cond.methodLink RX11 206 yX11_drawBelow]
def wsX11_happen_r3 : List Cond := [Cond.instanceMethod yX11_drawBelow, Cond.selects RX11 yX11_drawBelow yX11_drawBelow, Cond.code yX11_drawBelow cX11_drawBelow 2 (some .int), Cond.fieldLink RX11 203 "SaidInWinter" "seed" "I", Cond.constant RX11 314 (1103515245), Cond.constant RX11 315 (2147483647), Cond.constant RX11 316 (65536), Cond.methodLink RX11 99 yX6_freezeIn, Cond.instanceMethod yX6_freezeIn, Cond.selects RX6 yX6_freezeIn yX6_freezeIn, Cond.code yX6_freezeIn cX6_freezeIn 6 (some .int), Cond.fieldLink RX6 17 "SaidInWinter$Lake" "kinds" "[LSaidInWinter$Layer;", Cond.methodLink RX6 34 yX6_cellAt, Cond.instanceMethod yX6_cellAt, Cond.selects RX6 yX6_cellAt yX6_cellAt, Cond.code yX6_cellAt cX6_cellAt 2 (some (.object "SaidInWinter$Cell")), Cond.static yX11_isKindAndOath, Cond.code yX11_isKindAndOath cX11_isKindAndOath 2 (some .boolean), Cond.methodLink RX11 89 yX11_within, Cond.static yX11_kindOf, Cond.code yX11_kindOf cX11_kindOf 2 (some (.object "SaidInWinter$Layer")), Cond.methodLink RX6 46 yX2_freezeOn, Cond.instanceMethod yX2_freezeOn, Cond.selects RX2 yX2_freezeOn yX2_freezeOn]
def wsX11_happen_r4 : List Cond := [Cond.code yX2_freezeOn cX2_freezeOn 7 (some .int), Cond.fieldLink RX2 9 "SaidInWinter$Cell" "kind" "[I", Cond.fieldLink RX2 15 "SaidInWinter$Cell" "oath" "[I", Cond.fieldLink RX2 18 "SaidInWinter$Cell" "frozenIn" "[I", Cond.fieldLink RX2 27 "SaidInWinter$Cell" "light" "[I", Cond.methodLink RX2 57 ⟨"SaidInWinter$Layer", "fingersIn", "(II)I"⟩, Cond.sameMethod "SaidInWinter$Layer" "SaidInWinter$Layer" "fingersIn" "(II)I", Cond.instanceMethod ⟨"SaidInWinter$Layer", "fingersIn", "(II)I"⟩, Cond.selects RX0 ⟨"SaidInWinter$Layer", "fingersIn", "(II)I"⟩ yX0_fingersIn, Cond.instanceMethod yX0_fingersIn, Cond.initialized RX0, Cond.code yX0_fingersIn cX0_fingersIn 3 (some .int), Cond.methodLink RX0 7 yX3_fingersIn, Cond.sameMethod "SaidInWinter$Clear" "SaidInWinter$Clear" "fingersIn" "(II)I", Cond.superclass RX0 RX3, Cond.instanceMethod yX3_fingersIn, Cond.initialized RX3, Cond.code yX3_fingersIn cX3_fingersIn 3 (some .int), Cond.methodLink RX3 7 yX7_fingersIn, Cond.superclass RX3 RX7, Cond.instanceMethod yX7_fingersIn, Cond.initialized RX7, Cond.code yX7_fingersIn cX7_fingersIn 3 (some .int), Cond.selects RX1 ⟨"SaidInWinter$Layer", "fingersIn", "(II)I"⟩ yX3_fingersIn]
def wsX11_happen_r5 : List Cond := [Cond.selects RX3 ⟨"SaidInWinter$Layer", "fingersIn", "(II)I"⟩ yX3_fingersIn, Cond.selects RX4 ⟨"SaidInWinter$Layer", "fingersIn", "(II)I"⟩ yX10_fingersIn, Cond.instanceMethod yX10_fingersIn, Cond.initialized RX10, Cond.code yX10_fingersIn cX10_fingersIn 3 (some .int), Cond.methodLink RX10 7 yX7_fingersIn, Cond.superclass RX10 RX7, Cond.selects RX5 ⟨"SaidInWinter$Layer", "fingersIn", "(II)I"⟩ yX5_fingersIn, Cond.instanceMethod yX5_fingersIn, Cond.initialized RX5, Cond.code yX5_fingersIn cX5_fingersIn 3 (some .int), Cond.methodLink RX5 11 Lib.Math.max.name, Cond.static Lib.Math.max.name, Cond.code Lib.Math.max.name Lib.Math.max.code 2 (some .int), Cond.methodLink RX5 7 yX7_fingersIn, Cond.superclass RX5 RX7, Cond.methodLink RX2 57 yX7_fingersIn, Cond.selects RX7 yX7_fingersIn yX7_fingersIn, Cond.selects RX8 ⟨"SaidInWinter$Layer", "fingersIn", "(II)I"⟩ yX8_fingersIn, Cond.instanceMethod yX8_fingersIn, Cond.initialized RX8, Cond.code yX8_fingersIn cX8_fingersIn 3 (some .int), Cond.methodLink RX8 7 yX10_fingersIn, Cond.sameMethod "SaidInWinter$Snow" "SaidInWinter$Snow" "fingersIn" "(II)I"]
def wsX11_happen_r6 : List Cond := [Cond.superclass RX8 RX10, Cond.selects RX10 ⟨"SaidInWinter$Layer", "fingersIn", "(II)I"⟩ yX10_fingersIn, Cond.methodLink RX2 63 ⟨"SaidInWinter$Layer", "melts", "(I)I"⟩, Cond.sameMethod "SaidInWinter$Layer" "SaidInWinter$Layer" "melts" "(I)I", Cond.instanceMethod ⟨"SaidInWinter$Layer", "melts", "(I)I"⟩, Cond.selects RX0 ⟨"SaidInWinter$Layer", "melts", "(I)I"⟩ yX3_melts, Cond.instanceMethod yX3_melts, Cond.code yX3_melts cX3_melts 2 (some .int), Cond.methodLink RX3 11 yX7_melts, Cond.instanceMethod yX7_melts, Cond.code yX7_melts cX7_melts 2 (some .int), Cond.selects RX1 ⟨"SaidInWinter$Layer", "melts", "(I)I"⟩ yX1_melts, Cond.instanceMethod yX1_melts, Cond.initialized RX1, Cond.code yX1_melts cX1_melts 2 (some .int), Cond.methodLink RX1 7 yX3_melts, Cond.sameMethod "SaidInWinter$Clear" "SaidInWinter$Clear" "melts" "(I)I", Cond.superclass RX1 RX3, Cond.selects RX3 ⟨"SaidInWinter$Layer", "melts", "(I)I"⟩ yX3_melts, Cond.selects RX4 ⟨"SaidInWinter$Layer", "melts", "(I)I"⟩ yX4_melts, Cond.instanceMethod yX4_melts, Cond.initialized RX4, Cond.code yX4_melts cX4_melts 2 (some .int), Cond.methodLink RX4 7 yX10_melts]
def wsX11_happen_r7 : List Cond := [Cond.sameMethod "SaidInWinter$Snow" "SaidInWinter$Snow" "melts" "(I)I", Cond.superclass RX4 RX10, Cond.instanceMethod yX10_melts, Cond.code yX10_melts cX10_melts 2 (some .int), Cond.methodLink RX10 11 yX7_melts, Cond.selects RX5 ⟨"SaidInWinter$Layer", "melts", "(I)I"⟩ yX5_melts, Cond.instanceMethod yX5_melts, Cond.code yX5_melts cX5_melts 2 (some .int), Cond.methodLink RX5 16 yX7_melts, Cond.methodLink RX2 63 yX7_melts, Cond.selects RX7 yX7_melts yX7_melts, Cond.selects RX8 ⟨"SaidInWinter$Layer", "melts", "(I)I"⟩ yX8_melts, Cond.instanceMethod yX8_melts, Cond.code yX8_melts cX8_melts 2 (some .int), Cond.methodLink RX8 11 yX10_melts, Cond.selects RX10 ⟨"SaidInWinter$Layer", "melts", "(I)I"⟩ yX10_melts, Cond.methodLink RX2 65 ⟨"SaidInWinter$Layer", "light", "(I)I"⟩, Cond.sameMethod "SaidInWinter$Layer" "SaidInWinter$Layer" "light" "(I)I", Cond.instanceMethod ⟨"SaidInWinter$Layer", "light", "(I)I"⟩, Cond.selects RX0 ⟨"SaidInWinter$Layer", "light", "(I)I"⟩ yX0_light, Cond.instanceMethod yX0_light, Cond.code yX0_light cX0_light 2 (some .int), Cond.methodLink RX0 11 yX3_light, Cond.sameMethod "SaidInWinter$Clear" "SaidInWinter$Clear" "light" "(I)I"]
def wsX11_happen_r8 : List Cond := [Cond.instanceMethod yX3_light, Cond.code yX3_light cX3_light 2 (some .int), Cond.methodLink RX3 15 yX7_light, Cond.instanceMethod yX7_light, Cond.code yX7_light cX7_light 2 (some .int), Cond.selects RX1 ⟨"SaidInWinter$Layer", "light", "(I)I"⟩ yX1_light, Cond.instanceMethod yX1_light, Cond.code yX1_light cX1_light 2 (some .int), Cond.methodLink RX1 11 yX3_light, Cond.selects RX3 ⟨"SaidInWinter$Layer", "light", "(I)I"⟩ yX3_light, Cond.selects RX4 ⟨"SaidInWinter$Layer", "light", "(I)I"⟩ yX4_light, Cond.instanceMethod yX4_light, Cond.code yX4_light cX4_light 2 (some .int), Cond.selects RX5 ⟨"SaidInWinter$Layer", "light", "(I)I"⟩ yX7_light, Cond.methodLink RX2 65 yX7_light, Cond.selects RX7 yX7_light yX7_light, Cond.selects RX8 ⟨"SaidInWinter$Layer", "light", "(I)I"⟩ yX10_light, Cond.instanceMethod yX10_light, Cond.code yX10_light cX10_light 2 (some .int), Cond.methodLink RX10 15 yX7_light, Cond.selects RX10 ⟨"SaidInWinter$Layer", "light", "(I)I"⟩ yX10_light]
def wsX11_happen : List Cond := .code yX11_happen cX11_happen 2 none :: ((wsX11_happen_r1 ++ (wsX11_happen_r2 ++ (wsX11_happen_r3 ++ (wsX11_happen_r4 ++ (wsX11_happen_r5 ++ (wsX11_happen_r6 ++ (wsX11_happen_r7 ++ wsX11_happen_r8))))))) ++ wsX110 ++ wsX60 ++ wsX20)
def wsX11_seeded_r1 : List Cond := [Cond.fieldLink RX11 49 "SaidInWinter" "mind" "LSaidInWinter$Lake;", Cond.fieldLink RX11 42 "SaidInWinter" "now" "LSaidInWinter$Lake;", Cond.fieldLink RX11 203 "SaidInWinter" "seed" "I", Cond.methodLink RX11 89 yX11_within, Cond.static yX11_within, Cond.initialized RX11, Cond.code yX11_within cX11_within 3 (some .boolean), Cond.methodLink RX11 199 yX6_takeAll, Cond.instanceMethod yX6_takeAll, Cond.selects RX6 yX6_takeAll yX6_takeAll, Cond.initialized RX6, Cond.code yX6_takeAll cX6_takeAll 3 none, Cond.fieldLink RX6 26 "SaidInWinter$Lake" "winter" "I", Cond.fieldLink RX6 11 "SaidInWinter$Lake" "cells" "[LSaidInWinter$Cell;", Cond.methodLink RX6 30 yX2_takeLayers, Cond.instanceMethod yX2_takeLayers, Cond.selects RX2 yX2_takeLayers yX2_takeLayers, Cond.initialized RX2, Cond.code yX2_takeLayers cX2_takeLayers 3 none, Cond.fieldLink RX2 30 "SaidInWinter$Cell" "layers" "I", Cond.fieldLink RX2 9 "SaidInWinter$Cell" "kind" "[I", Cond.fieldLink RX2 15 "SaidInWinter$Cell" "oath" "[I", Cond.fieldLink RX2 18 "SaidInWinter$Cell" "frozenIn" "[I", Cond.fieldLink RX2 21 "SaidInWinter$Cell" "thick" "[I"]
def wsX11_seeded_r2 : List Cond := [Cond.fieldLink RX2 24 "SaidInWinter$Cell" "melts" "[I", Cond.fieldLink RX2 27 "SaidInWinter$Cell" "light" "[I", Cond.methodLink RX11 206 yX11_drawBelow, Cond.instanceMethod yX11_drawBelow, Cond.selects RX11 yX11_drawBelow yX11_drawBelow, Cond.code yX11_drawBelow cX11_drawBelow 2 (some .int), Cond.constant RX11 314 (1103515245), Cond.constant RX11 315 (2147483647), Cond.constant RX11 316 (65536), Cond.methodLink RX11 209 yX11_happen, Cond.instanceMethod yX11_happen, Cond.selects RX11 yX11_happen yX11_happen, Cond.code yX11_happen cX11_happen 2 none, Cond.methodLink RX11 103 yX6_thawFor, Cond.instanceMethod yX6_thawFor, Cond.selects RX6 yX6_thawFor yX6_thawFor, Cond.code yX6_thawFor cX6_thawFor 8 (some .int), Cond.methodLink RX6 53 yX2_warmDay, Cond.instanceMethod yX2_warmDay, Cond.selects RX2 yX2_warmDay yX2_warmDay, Cond.code yX2_warmDay cX2_warmDay 2 (some .int), Cond.methodLink RX2 70 Lib.Math.min.name, Cond.static Lib.Math.min.name, Cond.initialized "java/lang/Math"]
def wsX11_seeded_r3 : List Cond := [Cond.code Lib.Math.min.name Lib.Math.min.code 2 (some .int), Cond.methodLink RX2 34 yX2_has, Cond.instanceMethod yX2_has, Cond.selects RX2 yX2_has yX2_has, Cond.code yX2_has cX2_has 2 (some .boolean), Cond.methodLink RX2 67 yX2_meltsAt, Cond.instanceMethod yX2_meltsAt, Cond.selects RX2 yX2_meltsAt yX2_meltsAt, Cond.code yX2_meltsAt cX2_meltsAt 2 (some .int), Cond.methodLink RX2 38 yX2_thickAt, Cond.instanceMethod yX2_thickAt, Cond.selects RX2 yX2_thickAt yX2_thickAt, Cond.code yX2_thickAt cX2_thickAt 2 (some .int), Cond.methodLink RX2 75 yX2_cutOff, Cond.instanceMethod yX2_cutOff, Cond.selects RX2 yX2_cutOff yX2_cutOff, Cond.code yX2_cutOff cX2_cutOff 6 (some .int), Cond.methodLink RX11 114 yX6_nextWinter, Cond.instanceMethod yX6_nextWinter, Cond.selects RX6 yX6_nextWinter yX6_nextWinter, Cond.code yX6_nextWinter cX6_nextWinter 1 (some .int), Cond.methodLink RX11 311 yX11_freezeDrawn, Cond.instanceMethod yX11_freezeDrawn, Cond.selects RX11 yX11_freezeDrawn yX11_freezeDrawn]
def wsX11_seeded_r4 : List Cond := [Cond.code yX11_freezeDrawn cX11_freezeDrawn 5 none, Cond.methodLink RX11 99 yX6_freezeIn, Cond.instanceMethod yX6_freezeIn, Cond.selects RX6 yX6_freezeIn yX6_freezeIn, Cond.code yX6_freezeIn cX6_freezeIn 6 (some .int), Cond.fieldLink RX6 17 "SaidInWinter$Lake" "kinds" "[LSaidInWinter$Layer;", Cond.methodLink RX6 34 yX6_cellAt, Cond.instanceMethod yX6_cellAt, Cond.selects RX6 yX6_cellAt yX6_cellAt, Cond.code yX6_cellAt cX6_cellAt 2 (some (.object "SaidInWinter$Cell")), Cond.static yX11_isKindAndOath, Cond.code yX11_isKindAndOath cX11_isKindAndOath 2 (some .boolean), Cond.static yX11_kindOf, Cond.code yX11_kindOf cX11_kindOf 2 (some (.object "SaidInWinter$Layer")), Cond.methodLink RX6 46 yX2_freezeOn, Cond.instanceMethod yX2_freezeOn, Cond.selects RX2 yX2_freezeOn yX2_freezeOn, Cond.code yX2_freezeOn cX2_freezeOn 7 (some .int), Cond.methodLink RX2 57 ⟨"SaidInWinter$Layer", "fingersIn", "(II)I"⟩, Cond.sameMethod "SaidInWinter$Layer" "SaidInWinter$Layer" "fingersIn" "(II)I", Cond.instanceMethod ⟨"SaidInWinter$Layer", "fingersIn", "(II)I"⟩, Cond.selects RX0 ⟨"SaidInWinter$Layer", "fingersIn", "(II)I"⟩ yX0_fingersIn, Cond.instanceMethod yX0_fingersIn, Cond.initialized RX0]
def wsX11_seeded_r5 : List Cond := [Cond.code yX0_fingersIn cX0_fingersIn 3 (some .int), Cond.methodLink RX0 7 yX3_fingersIn, Cond.sameMethod "SaidInWinter$Clear" "SaidInWinter$Clear" "fingersIn" "(II)I", Cond.superclass RX0 RX3, Cond.instanceMethod yX3_fingersIn, Cond.initialized RX3, Cond.code yX3_fingersIn cX3_fingersIn 3 (some .int), Cond.methodLink RX3 7 yX7_fingersIn, Cond.superclass RX3 RX7, Cond.instanceMethod yX7_fingersIn, Cond.initialized RX7, Cond.code yX7_fingersIn cX7_fingersIn 3 (some .int), Cond.selects RX1 ⟨"SaidInWinter$Layer", "fingersIn", "(II)I"⟩ yX3_fingersIn, Cond.selects RX3 ⟨"SaidInWinter$Layer", "fingersIn", "(II)I"⟩ yX3_fingersIn, Cond.selects RX4 ⟨"SaidInWinter$Layer", "fingersIn", "(II)I"⟩ yX10_fingersIn, Cond.instanceMethod yX10_fingersIn, Cond.initialized RX10, Cond.code yX10_fingersIn cX10_fingersIn 3 (some .int), Cond.methodLink RX10 7 yX7_fingersIn, Cond.superclass RX10 RX7, Cond.selects RX5 ⟨"SaidInWinter$Layer", "fingersIn", "(II)I"⟩ yX5_fingersIn, Cond.instanceMethod yX5_fingersIn, Cond.initialized RX5, Cond.code yX5_fingersIn cX5_fingersIn 3 (some .int)]
def wsX11_seeded_r6 : List Cond := [Cond.methodLink RX5 11 Lib.Math.max.name, Cond.static Lib.Math.max.name, Cond.code Lib.Math.max.name Lib.Math.max.code 2 (some .int), Cond.methodLink RX5 7 yX7_fingersIn, Cond.superclass RX5 RX7, Cond.methodLink RX2 57 yX7_fingersIn, Cond.selects RX7 yX7_fingersIn yX7_fingersIn, Cond.selects RX8 ⟨"SaidInWinter$Layer", "fingersIn", "(II)I"⟩ yX8_fingersIn, Cond.instanceMethod yX8_fingersIn, Cond.initialized RX8, Cond.code yX8_fingersIn cX8_fingersIn 3 (some .int), Cond.methodLink RX8 7 yX10_fingersIn, Cond.sameMethod "SaidInWinter$Snow" "SaidInWinter$Snow" "fingersIn" "(II)I", Cond.superclass RX8 RX10, Cond.selects RX10 ⟨"SaidInWinter$Layer", "fingersIn", "(II)I"⟩ yX10_fingersIn, Cond.methodLink RX2 63 ⟨"SaidInWinter$Layer", "melts", "(I)I"⟩, Cond.sameMethod "SaidInWinter$Layer" "SaidInWinter$Layer" "melts" "(I)I", Cond.instanceMethod ⟨"SaidInWinter$Layer", "melts", "(I)I"⟩, Cond.selects RX0 ⟨"SaidInWinter$Layer", "melts", "(I)I"⟩ yX3_melts, Cond.instanceMethod yX3_melts, Cond.code yX3_melts cX3_melts 2 (some .int), Cond.methodLink RX3 11 yX7_melts, Cond.instanceMethod yX7_melts, Cond.code yX7_melts cX7_melts 2 (some .int)]
def wsX11_seeded_r7 : List Cond := [Cond.selects RX1 ⟨"SaidInWinter$Layer", "melts", "(I)I"⟩ yX1_melts, Cond.instanceMethod yX1_melts, Cond.initialized RX1, Cond.code yX1_melts cX1_melts 2 (some .int), Cond.methodLink RX1 7 yX3_melts, Cond.sameMethod "SaidInWinter$Clear" "SaidInWinter$Clear" "melts" "(I)I", Cond.superclass RX1 RX3, Cond.selects RX3 ⟨"SaidInWinter$Layer", "melts", "(I)I"⟩ yX3_melts, Cond.selects RX4 ⟨"SaidInWinter$Layer", "melts", "(I)I"⟩ yX4_melts, Cond.instanceMethod yX4_melts, Cond.initialized RX4, Cond.code yX4_melts cX4_melts 2 (some .int), Cond.methodLink RX4 7 yX10_melts, Cond.sameMethod "SaidInWinter$Snow" "SaidInWinter$Snow" "melts" "(I)I", Cond.superclass RX4 RX10, Cond.instanceMethod yX10_melts, Cond.code yX10_melts cX10_melts 2 (some .int), Cond.methodLink RX10 11 yX7_melts, Cond.selects RX5 ⟨"SaidInWinter$Layer", "melts", "(I)I"⟩ yX5_melts, Cond.instanceMethod yX5_melts, Cond.code yX5_melts cX5_melts 2 (some .int), Cond.methodLink RX5 16 yX7_melts, Cond.methodLink RX2 63 yX7_melts, Cond.selects RX7 yX7_melts yX7_melts]
def wsX11_seeded_r8 : List Cond := [Cond.selects RX8 ⟨"SaidInWinter$Layer", "melts", "(I)I"⟩ yX8_melts, Cond.instanceMethod yX8_melts, Cond.code yX8_melts cX8_melts 2 (some .int), Cond.methodLink RX8 11 yX10_melts, Cond.selects RX10 ⟨"SaidInWinter$Layer", "melts", "(I)I"⟩ yX10_melts, Cond.methodLink RX2 65 ⟨"SaidInWinter$Layer", "light", "(I)I"⟩, Cond.sameMethod "SaidInWinter$Layer" "SaidInWinter$Layer" "light" "(I)I", Cond.instanceMethod ⟨"SaidInWinter$Layer", "light", "(I)I"⟩, Cond.selects RX0 ⟨"SaidInWinter$Layer", "light", "(I)I"⟩ yX0_light, Cond.instanceMethod yX0_light, Cond.code yX0_light cX0_light 2 (some .int), Cond.methodLink RX0 11 yX3_light, Cond.sameMethod "SaidInWinter$Clear" "SaidInWinter$Clear" "light" "(I)I", Cond.instanceMethod yX3_light, Cond.code yX3_light cX3_light 2 (some .int), Cond.methodLink RX3 15 yX7_light, Cond.instanceMethod yX7_light, Cond.code yX7_light cX7_light 2 (some .int), Cond.selects RX1 ⟨"SaidInWinter$Layer", "light", "(I)I"⟩ yX1_light, Cond.instanceMethod yX1_light, Cond.code yX1_light cX1_light 2 (some .int), Cond.methodLink RX1 11 yX3_light, Cond.selects RX3 ⟨"SaidInWinter$Layer", "light", "(I)I"⟩ yX3_light, Cond.selects RX4 ⟨"SaidInWinter$Layer", "light", "(I)I"⟩ yX4_light]
def wsX11_seeded_r9 : List Cond := [Cond.instanceMethod yX4_light, Cond.code yX4_light cX4_light 2 (some .int), Cond.selects RX5 ⟨"SaidInWinter$Layer", "light", "(I)I"⟩ yX7_light, Cond.methodLink RX2 65 yX7_light, Cond.selects RX7 yX7_light yX7_light, Cond.selects RX8 ⟨"SaidInWinter$Layer", "light", "(I)I"⟩ yX10_light, Cond.instanceMethod yX10_light, Cond.code yX10_light cX10_light 2 (some .int), Cond.methodLink RX10 15 yX7_light, Cond.selects RX10 ⟨"SaidInWinter$Layer", "light", "(I)I"⟩ yX10_light, Cond.methodLink RX11 213 yX6_allIce, Cond.instanceMethod yX6_allIce, Cond.selects RX6 yX6_allIce yX6_allIce, Cond.code yX6_allIce cX6_allIce 6 (some .int), Cond.methodLink RX6 61 yX2_ice, Cond.instanceMethod yX2_ice, Cond.selects RX2 yX2_ice yX2_ice, Cond.code yX2_ice cX2_ice 1 (some .int), Cond.methodLink RX2 42 yX2_depthAt, Cond.instanceMethod yX2_depthAt, Cond.selects RX2 yX2_depthAt yX2_depthAt, Cond.code yX2_depthAt cX2_depthAt 4 (some .int)]
def wsX11_seeded : List Cond := .code yX11_seeded cX11_seeded 4 (some .int) :: ((wsX11_seeded_r1 ++ (wsX11_seeded_r2 ++ (wsX11_seeded_r3 ++ (wsX11_seeded_r4 ++ (wsX11_seeded_r5 ++ (wsX11_seeded_r6 ++ (wsX11_seeded_r7 ++ (wsX11_seeded_r8 ++ wsX11_seeded_r9)))))))) ++ wsX110 ++ wsX60 ++ wsX20)
def wsX11_firstWrong_r1 : List Cond := [Cond.fieldLink RX11 42 "SaidInWinter" "now" "LSaidInWinter$Lake;", Cond.methodLink RX11 308 Lib.Math.min.name, Cond.static Lib.Math.min.name, Cond.initialized "java/lang/Math", Cond.code Lib.Math.min.name Lib.Math.min.code 2 (some .int), Cond.methodLink RX11 281 yX9_valueAt, Cond.instanceMethod yX9_valueAt, Cond.selects RX9 yX9_valueAt yX9_valueAt, Cond.initialized RX9, Cond.code yX9_valueAt cX9_valueAt 2 (some .int), Cond.fieldLink RX9 9 "SaidInWinter$Shelf" "elements" "[I", Cond.methodLink RX9 37 yX9_hasPlace, Cond.instanceMethod yX9_hasPlace, Cond.selects RX9 yX9_hasPlace yX9_hasPlace, Cond.code yX9_hasPlace cX9_hasPlace 2 (some .boolean), Cond.fieldLink RX9 28 "SaidInWinter$Shelf" "size" "I", Cond.methodLink RX11 85 yX6_cellAt, Cond.instanceMethod yX6_cellAt, Cond.selects RX6 yX6_cellAt yX6_cellAt, Cond.initialized RX6, Cond.code yX6_cellAt cX6_cellAt 2 (some (.object "SaidInWinter$Cell")), Cond.fieldLink RX6 11 "SaidInWinter$Lake" "cells" "[LSaidInWinter$Cell;", Cond.static yX11_within, Cond.initialized RX11]
def wsX11_firstWrong_r2 : List Cond := [Cond.code yX11_within cX11_within 3 (some .boolean), Cond.methodLink RX11 317 yX9_leastNumber, Cond.instanceMethod yX9_leastNumber, Cond.selects RX9 yX9_leastNumber yX9_leastNumber, Cond.code yX9_leastNumber cX9_leastNumber 1 (some .int), Cond.fieldLink RX9 25 "SaidInWinter$Shelf" "sort" "I", Cond.constant RX9 49 (-2147483648), Cond.methodLink RX11 129 yX2_ice, Cond.instanceMethod yX2_ice, Cond.selects RX2 yX2_ice yX2_ice, Cond.initialized RX2, Cond.code yX2_ice cX2_ice 1 (some .int), Cond.methodLink RX2 42 yX2_depthAt, Cond.instanceMethod yX2_depthAt, Cond.selects RX2 yX2_depthAt yX2_depthAt, Cond.code yX2_depthAt cX2_depthAt 4 (some .int), Cond.fieldLink RX2 30 "SaidInWinter$Cell" "layers" "I", Cond.methodLink RX2 38 yX2_thickAt, Cond.instanceMethod yX2_thickAt, Cond.selects RX2 yX2_thickAt yX2_thickAt, Cond.code yX2_thickAt cX2_thickAt 2 (some .int), Cond.fieldLink RX2 21 "SaidInWinter$Cell" "thick" "[I", Cond.methodLink RX2 34 yX2_has, Cond.instanceMethod yX2_has]
def wsX11_firstWrong_r3 : List Cond := [Cond.selects RX2 yX2_has yX2_has, Cond.code yX2_has cX2_has 2 (some .boolean)]
def wsX11_firstWrong : List Cond := .code yX11_firstWrong cX11_firstWrong 5 (some .int) :: ((wsX11_firstWrong_r1 ++ (wsX11_firstWrong_r2 ++ wsX11_firstWrong_r3)) ++ wsX90 ++ wsX110 ++ wsX60 ++ wsX20)
def wsX11_judge_r1 : List Cond := [Cond.methodLink RX11 66 yX11_shelfAt, Cond.instanceMethod yX11_shelfAt, Cond.selects RX11 yX11_shelfAt yX11_shelfAt, Cond.initialized RX11, Cond.code yX11_shelfAt cX11_shelfAt 2 (some (.object "SaidInWinter$Shelf")), Cond.fieldLink RX11 54 "SaidInWinter" "shelves" "[LSaidInWinter$Shelf;", Cond.methodLink RX11 89 yX11_within, Cond.static yX11_within, Cond.code yX11_within cX11_within 3 (some .boolean), Cond.methodLink RX11 70 yX9_lacks, Cond.instanceMethod yX9_lacks, Cond.selects RX9 yX9_lacks yX9_lacks, Cond.initialized RX9, Cond.code yX9_lacks cX9_lacks 2 (some .int), Cond.fieldLink RX9 15 "SaidInWinter$Shelf" "held" "I", Cond.methodLink RX11 216 yX11_firstWrong, Cond.instanceMethod yX11_firstWrong, Cond.selects RX11 yX11_firstWrong yX11_firstWrong, Cond.code yX11_firstWrong cX11_firstWrong 5 (some .int), Cond.fieldLink RX11 42 "SaidInWinter" "now" "LSaidInWinter$Lake;", Cond.methodLink RX11 308 Lib.Math.min.name, Cond.static Lib.Math.min.name, Cond.initialized "java/lang/Math", Cond.code Lib.Math.min.name Lib.Math.min.code 2 (some .int)]
def wsX11_judge_r2 : List Cond := [Cond.methodLink RX11 281 yX9_valueAt, Cond.instanceMethod yX9_valueAt, Cond.selects RX9 yX9_valueAt yX9_valueAt, Cond.code yX9_valueAt cX9_valueAt 2 (some .int), Cond.fieldLink RX9 9 "SaidInWinter$Shelf" "elements" "[I", Cond.methodLink RX9 37 yX9_hasPlace, Cond.instanceMethod yX9_hasPlace, Cond.selects RX9 yX9_hasPlace yX9_hasPlace, Cond.code yX9_hasPlace cX9_hasPlace 2 (some .boolean), Cond.fieldLink RX9 28 "SaidInWinter$Shelf" "size" "I", Cond.methodLink RX11 85 yX6_cellAt, Cond.instanceMethod yX6_cellAt, Cond.selects RX6 yX6_cellAt yX6_cellAt, Cond.initialized RX6, Cond.code yX6_cellAt cX6_cellAt 2 (some (.object "SaidInWinter$Cell")), Cond.fieldLink RX6 11 "SaidInWinter$Lake" "cells" "[LSaidInWinter$Cell;", Cond.methodLink RX11 317 yX9_leastNumber, Cond.instanceMethod yX9_leastNumber, Cond.selects RX9 yX9_leastNumber yX9_leastNumber, Cond.code yX9_leastNumber cX9_leastNumber 1 (some .int), Cond.fieldLink RX9 25 "SaidInWinter$Shelf" "sort" "I", Cond.constant RX9 49 (-2147483648), Cond.methodLink RX11 129 yX2_ice, Cond.instanceMethod yX2_ice]
def wsX11_judge_r3 : List Cond := [Cond.selects RX2 yX2_ice yX2_ice, Cond.initialized RX2, Cond.code yX2_ice cX2_ice 1 (some .int), Cond.methodLink RX2 42 yX2_depthAt, Cond.instanceMethod yX2_depthAt, Cond.selects RX2 yX2_depthAt yX2_depthAt, Cond.code yX2_depthAt cX2_depthAt 4 (some .int), Cond.fieldLink RX2 30 "SaidInWinter$Cell" "layers" "I", Cond.methodLink RX2 38 yX2_thickAt, Cond.instanceMethod yX2_thickAt, Cond.selects RX2 yX2_thickAt yX2_thickAt, Cond.code yX2_thickAt cX2_thickAt 2 (some .int), Cond.fieldLink RX2 21 "SaidInWinter$Cell" "thick" "[I", Cond.methodLink RX2 34 yX2_has, Cond.instanceMethod yX2_has, Cond.selects RX2 yX2_has yX2_has, Cond.code yX2_has cX2_has 2 (some .boolean)]
def wsX11_judge : List Cond := .code yX11_judge cX11_judge 4 (some .int) :: ((wsX11_judge_r1 ++ (wsX11_judge_r2 ++ wsX11_judge_r3)) ++ wsX110 ++ wsX90 ++ wsX60 ++ wsX20)
def wsX11_image_r1 : List Cond := [Cond.fieldLink RX11 46 "SaidInWinter" "imaged" "LSaidInWinter$Lake;", Cond.fieldLink RX11 42 "SaidInWinter" "now" "LSaidInWinter$Lake;", Cond.fieldLink RX11 219 "SaidInWinter" "isImaged" "Z", Cond.methodLink RX11 199 yX6_takeAll, Cond.instanceMethod yX6_takeAll, Cond.selects RX6 yX6_takeAll yX6_takeAll, Cond.initialized RX6, Cond.code yX6_takeAll cX6_takeAll 3 none, Cond.fieldLink RX6 26 "SaidInWinter$Lake" "winter" "I", Cond.fieldLink RX6 11 "SaidInWinter$Lake" "cells" "[LSaidInWinter$Cell;", Cond.methodLink RX6 30 yX2_takeLayers, Cond.instanceMethod yX2_takeLayers, Cond.selects RX2 yX2_takeLayers yX2_takeLayers, Cond.initialized RX2, Cond.code yX2_takeLayers cX2_takeLayers 3 none, Cond.fieldLink RX2 30 "SaidInWinter$Cell" "layers" "I", Cond.fieldLink RX2 9 "SaidInWinter$Cell" "kind" "[I", Cond.fieldLink RX2 15 "SaidInWinter$Cell" "oath" "[I", Cond.fieldLink RX2 18 "SaidInWinter$Cell" "frozenIn" "[I", Cond.fieldLink RX2 21 "SaidInWinter$Cell" "thick" "[I", Cond.fieldLink RX2 24 "SaidInWinter$Cell" "melts" "[I", Cond.fieldLink RX2 27 "SaidInWinter$Cell" "light" "[I", Cond.methodLink RX11 213 yX6_allIce, Cond.instanceMethod yX6_allIce]
def wsX11_image_r2 : List Cond := [Cond.selects RX6 yX6_allIce yX6_allIce, Cond.code yX6_allIce cX6_allIce 6 (some .int), Cond.methodLink RX6 61 yX2_ice, Cond.instanceMethod yX2_ice, Cond.selects RX2 yX2_ice yX2_ice, Cond.code yX2_ice cX2_ice 1 (some .int), Cond.methodLink RX2 42 yX2_depthAt, Cond.instanceMethod yX2_depthAt, Cond.selects RX2 yX2_depthAt yX2_depthAt, Cond.code yX2_depthAt cX2_depthAt 4 (some .int), Cond.methodLink RX2 38 yX2_thickAt, Cond.instanceMethod yX2_thickAt, Cond.selects RX2 yX2_thickAt yX2_thickAt, Cond.code yX2_thickAt cX2_thickAt 2 (some .int), Cond.methodLink RX2 34 yX2_has, Cond.instanceMethod yX2_has, Cond.selects RX2 yX2_has yX2_has, Cond.code yX2_has cX2_has 2 (some .boolean)]
def wsX11_image : List Cond := .code yX11_image cX11_image 1 (some .int) :: ((wsX11_image_r1 ++ wsX11_image_r2) ++ wsX110 ++ wsX60 ++ wsX20)
def wsX11_restore_r1 : List Cond := [Cond.fieldLink RX11 219 "SaidInWinter" "isImaged" "Z", Cond.fieldLink RX11 42 "SaidInWinter" "now" "LSaidInWinter$Lake;", Cond.fieldLink RX11 46 "SaidInWinter" "imaged" "LSaidInWinter$Lake;", Cond.methodLink RX11 199 yX6_takeAll, Cond.instanceMethod yX6_takeAll, Cond.selects RX6 yX6_takeAll yX6_takeAll, Cond.initialized RX6, Cond.code yX6_takeAll cX6_takeAll 3 none, Cond.fieldLink RX6 26 "SaidInWinter$Lake" "winter" "I", Cond.fieldLink RX6 11 "SaidInWinter$Lake" "cells" "[LSaidInWinter$Cell;", Cond.methodLink RX6 30 yX2_takeLayers, Cond.instanceMethod yX2_takeLayers, Cond.selects RX2 yX2_takeLayers yX2_takeLayers, Cond.initialized RX2, Cond.code yX2_takeLayers cX2_takeLayers 3 none, Cond.fieldLink RX2 30 "SaidInWinter$Cell" "layers" "I", Cond.fieldLink RX2 9 "SaidInWinter$Cell" "kind" "[I", Cond.fieldLink RX2 15 "SaidInWinter$Cell" "oath" "[I", Cond.fieldLink RX2 18 "SaidInWinter$Cell" "frozenIn" "[I", Cond.fieldLink RX2 21 "SaidInWinter$Cell" "thick" "[I", Cond.fieldLink RX2 24 "SaidInWinter$Cell" "melts" "[I", Cond.fieldLink RX2 27 "SaidInWinter$Cell" "light" "[I", Cond.methodLink RX11 213 yX6_allIce, Cond.instanceMethod yX6_allIce]
def wsX11_restore_r2 : List Cond := [Cond.selects RX6 yX6_allIce yX6_allIce, Cond.code yX6_allIce cX6_allIce 6 (some .int), Cond.methodLink RX6 61 yX2_ice, Cond.instanceMethod yX2_ice, Cond.selects RX2 yX2_ice yX2_ice, Cond.code yX2_ice cX2_ice 1 (some .int), Cond.methodLink RX2 42 yX2_depthAt, Cond.instanceMethod yX2_depthAt, Cond.selects RX2 yX2_depthAt yX2_depthAt, Cond.code yX2_depthAt cX2_depthAt 4 (some .int), Cond.methodLink RX2 38 yX2_thickAt, Cond.instanceMethod yX2_thickAt, Cond.selects RX2 yX2_thickAt yX2_thickAt, Cond.code yX2_thickAt cX2_thickAt 2 (some .int), Cond.methodLink RX2 34 yX2_has, Cond.instanceMethod yX2_has, Cond.selects RX2 yX2_has yX2_has, Cond.code yX2_has cX2_has 2 (some .boolean)]
def wsX11_restore : List Cond := .code yX11_restore cX11_restore 1 (some .int) :: ((wsX11_restore_r1 ++ wsX11_restore_r2) ++ wsX110 ++ wsX60 ++ wsX20)
def wsX11_count_r1 : List Cond := [Cond.fieldLink RX11 42 "SaidInWinter" "now" "LSaidInWinter$Lake;", Cond.methodLink RX11 226 yX6_allLayers, Cond.instanceMethod yX6_allLayers, Cond.selects RX6 yX6_allLayers yX6_allLayers, Cond.initialized RX6, Cond.code yX6_allLayers cX6_allLayers 6 (some .int), Cond.fieldLink RX6 11 "SaidInWinter$Lake" "cells" "[LSaidInWinter$Cell;", Cond.methodLink RX11 213 yX6_allIce, Cond.instanceMethod yX6_allIce, Cond.selects RX6 yX6_allIce yX6_allIce, Cond.code yX6_allIce cX6_allIce 6 (some .int), Cond.methodLink RX6 61 yX2_ice, Cond.instanceMethod yX2_ice, Cond.selects RX2 yX2_ice yX2_ice, Cond.initialized RX2, Cond.code yX2_ice cX2_ice 1 (some .int), Cond.methodLink RX2 42 yX2_depthAt, Cond.instanceMethod yX2_depthAt, Cond.selects RX2 yX2_depthAt yX2_depthAt, Cond.code yX2_depthAt cX2_depthAt 4 (some .int), Cond.fieldLink RX2 30 "SaidInWinter$Cell" "layers" "I", Cond.methodLink RX2 38 yX2_thickAt, Cond.instanceMethod yX2_thickAt, Cond.selects RX2 yX2_thickAt yX2_thickAt]
def wsX11_count_r2 : List Cond := [Cond.code yX2_thickAt cX2_thickAt 2 (some .int), Cond.fieldLink RX2 21 "SaidInWinter$Cell" "thick" "[I", Cond.methodLink RX2 34 yX2_has, Cond.instanceMethod yX2_has, Cond.selects RX2 yX2_has yX2_has, Cond.code yX2_has cX2_has 2 (some .boolean), Cond.methodLink RX11 229 yX6_allReadable, Cond.instanceMethod yX6_allReadable, Cond.selects RX6 yX6_allReadable yX6_allReadable, Cond.code yX6_allReadable cX6_allReadable 6 (some .int), Cond.methodLink RX6 64 yX2_readableLayers, Cond.instanceMethod yX2_readableLayers, Cond.selects RX2 yX2_readableLayers yX2_readableLayers, Cond.code yX2_readableLayers cX2_readableLayers 3 (some .int), Cond.methodLink RX2 54 yX2_canRead, Cond.instanceMethod yX2_canRead, Cond.selects RX2 yX2_canRead yX2_canRead, Cond.code yX2_canRead cX2_canRead 2 (some .boolean), Cond.methodLink RX2 45 yX2_lightAt, Cond.instanceMethod yX2_lightAt, Cond.selects RX2 yX2_lightAt yX2_lightAt, Cond.code yX2_lightAt cX2_lightAt 2 (some .int), Cond.fieldLink RX2 27 "SaidInWinter$Cell" "light" "[I", Cond.methodLink RX11 189 yX6_allOaths]
def wsX11_count_r3 : List Cond := [Cond.instanceMethod yX6_allOaths, Cond.selects RX6 yX6_allOaths yX6_allOaths, Cond.code yX6_allOaths cX6_allOaths 6 (some .int), Cond.methodLink RX6 67 yX2_oaths, Cond.instanceMethod yX2_oaths, Cond.selects RX2 yX2_oaths yX2_oaths, Cond.code yX2_oaths cX2_oaths 3 (some .int), Cond.methodLink RX2 48 yX2_oathAt, Cond.instanceMethod yX2_oathAt, Cond.selects RX2 yX2_oathAt yX2_oathAt, Cond.code yX2_oathAt cX2_oathAt 2 (some .int), Cond.fieldLink RX2 15 "SaidInWinter$Cell" "oath" "[I"]
def wsX11_count : List Cond := .code yX11_count cX11_count 2 (some .int) :: ((wsX11_count_r1 ++ (wsX11_count_r2 ++ wsX11_count_r3)) ++ wsX110 ++ wsX60 ++ wsX20)
def wsX11_keep : List Cond := .code yX11_keep cX11_keep 6 (some .int) :: ([.methodLink RX11 66 yX11_shelfAt, .instanceMethod yX11_shelfAt, .selects RX11 yX11_shelfAt yX11_shelfAt, .initialized RX11, .code yX11_shelfAt cX11_shelfAt 2 (some (.object "SaidInWinter$Shelf")), .fieldLink RX11 54 "SaidInWinter" "shelves" "[LSaidInWinter$Shelf;", .methodLink RX11 89 yX11_within, .static yX11_within, .code yX11_within cX11_within 3 (some .boolean), .methodLink RX11 153 yX11_isKindAndOath, .static yX11_isKindAndOath, .code yX11_isKindAndOath cX11_isKindAndOath 2 (some .boolean), .methodLink RX11 235 yX9_takeLayer, .instanceMethod yX9_takeLayer, .selects RX9 yX9_takeLayer yX9_takeLayer, .initialized RX9, .code yX9_takeLayer cX9_takeLayer 3 none, .fieldLink RX9 15 "SaidInWinter$Shelf" "held" "I", .fieldLink RX9 19 "SaidInWinter$Shelf" "kind" "I", .fieldLink RX9 22 "SaidInWinter$Shelf" "oath" "I"] ++ wsX90 ++ wsX110)
def wsX11_row : List Cond := .code yX11_row cX11_row 5 (some .int) :: ([.methodLink RX11 66 yX11_shelfAt, .instanceMethod yX11_shelfAt, .selects RX11 yX11_shelfAt yX11_shelfAt, .initialized RX11, .code yX11_shelfAt cX11_shelfAt 2 (some (.object "SaidInWinter$Shelf")), .fieldLink RX11 54 "SaidInWinter" "shelves" "[LSaidInWinter$Shelf;", .methodLink RX11 89 yX11_within, .static yX11_within, .code yX11_within cX11_within 3 (some .boolean), .methodLink RX11 239 yX9_takeRow, .instanceMethod yX9_takeRow, .selects RX9 yX9_takeRow yX9_takeRow, .initialized RX9, .code yX9_takeRow cX9_takeRow 3 none, .fieldLink RX9 15 "SaidInWinter$Shelf" "held" "I", .fieldLink RX9 25 "SaidInWinter$Shelf" "sort" "I", .fieldLink RX9 28 "SaidInWinter$Shelf" "size" "I", .fieldLink RX9 9 "SaidInWinter$Shelf" "elements" "[I", .methodLink RX9 31 yJ7_fill_53178, .static yJ7_fill_53178, .initialized RJ7, .code yJ7_fill_53178 cJ7_fill_53178 4 none] ++ wsX110 ++ wsX90)
def wsX11_put_r1 : List Cond := [Cond.methodLink RX11 66 yX11_shelfAt, Cond.instanceMethod yX11_shelfAt, Cond.selects RX11 yX11_shelfAt yX11_shelfAt, Cond.initialized RX11, Cond.code yX11_shelfAt cX11_shelfAt 2 (some (.object "SaidInWinter$Shelf")), Cond.fieldLink RX11 54 "SaidInWinter" "shelves" "[LSaidInWinter$Shelf;", Cond.methodLink RX11 89 yX11_within, Cond.static yX11_within, Cond.code yX11_within cX11_within 3 (some .boolean), Cond.methodLink RX11 70 yX9_lacks, Cond.instanceMethod yX9_lacks, Cond.selects RX9 yX9_lacks yX9_lacks, Cond.initialized RX9, Cond.code yX9_lacks cX9_lacks 2 (some .int), Cond.fieldLink RX9 15 "SaidInWinter$Shelf" "held" "I", Cond.methodLink RX11 242 yX9_hasPlace, Cond.instanceMethod yX9_hasPlace, Cond.selects RX9 yX9_hasPlace yX9_hasPlace, Cond.code yX9_hasPlace cX9_hasPlace 2 (some .boolean), Cond.fieldLink RX9 28 "SaidInWinter$Shelf" "size" "I", Cond.fieldLink RX9 9 "SaidInWinter$Shelf" "elements" "[I", Cond.methodLink RX11 248 yX9_lowestBits, Cond.instanceMethod yX9_lowestBits, Cond.selects RX9 yX9_lowestBits yX9_lowestBits]
def wsX11_put_r2 : List Cond := [Cond.code yX9_lowestBits cX9_lowestBits 2 (some .int), Cond.fieldLink RX9 25 "SaidInWinter$Shelf" "sort" "I"]
def wsX11_put : List Cond := .code yX11_put cX11_put 6 (some .int) :: ((wsX11_put_r1 ++ wsX11_put_r2) ++ wsX90 ++ wsX110)
def wsX11_element_r1 : List Cond := [Cond.classLink RX11 251 "java/lang/IllegalArgumentException", Cond.initialized "java/lang/IllegalArgumentException", Cond.classLink RX11 258 "java/lang/IllegalStateException", Cond.initialized "java/lang/IllegalStateException", Cond.methodLink RX11 66 yX11_shelfAt, Cond.instanceMethod yX11_shelfAt, Cond.selects RX11 yX11_shelfAt yX11_shelfAt, Cond.initialized RX11, Cond.code yX11_shelfAt cX11_shelfAt 2 (some (.object "SaidInWinter$Shelf")), Cond.fieldLink RX11 54 "SaidInWinter" "shelves" "[LSaidInWinter$Shelf;", Cond.methodLink RX11 89 yX11_within, Cond.static yX11_within, Cond.code yX11_within cX11_within 3 (some .boolean), Cond.methodLink RX11 70 yX9_lacks, Cond.instanceMethod yX9_lacks, Cond.selects RX9 yX9_lacks yX9_lacks, Cond.initialized RX9, Cond.code yX9_lacks cX9_lacks 2 (some .int), Cond.fieldLink RX9 15 "SaidInWinter$Shelf" "held" "I", Cond.methodLink RX11 242 yX9_hasPlace, Cond.instanceMethod yX9_hasPlace, Cond.selects RX9 yX9_hasPlace yX9_hasPlace, Cond.code yX9_hasPlace cX9_hasPlace 2 (some .boolean), Cond.fieldLink RX9 28 "SaidInWinter$Shelf" "size" "I"]
def wsX11_element_r2 : List Cond := [Cond.fieldLink RX9 9 "SaidInWinter$Shelf" "elements" "[I"]
def wsX11_element : List Cond := .code yX11_element cX11_element 4 (some .long) :: ((wsX11_element_r1 ++ wsX11_element_r2) ++ wsX90 ++ wsX110 ++ (vx_atS RX11 255 "java/lang/IllegalArgumentException" ["java/lang/RuntimeException", "java/lang/Exception"]).filter goodWord ++ (vx_atS RX11 262 "java/lang/IllegalStateException" ["java/lang/RuntimeException", "java/lang/Exception"]).filter goodWord)
def wsX11_copy : List Cond := .code yX11_copy cX11_copy 8 (some .int) :: ([.methodLink RX11 268 arraycopyName, .native arraycopyName, .static arraycopyName, .initialized "java/lang/System", .methodLink RX11 66 yX11_shelfAt, .instanceMethod yX11_shelfAt, .selects RX11 yX11_shelfAt yX11_shelfAt, .initialized RX11, .code yX11_shelfAt cX11_shelfAt 2 (some (.object "SaidInWinter$Shelf")), .fieldLink RX11 54 "SaidInWinter" "shelves" "[LSaidInWinter$Shelf;", .methodLink RX11 89 yX11_within, .static yX11_within, .code yX11_within cX11_within 3 (some .boolean), .methodLink RX11 265 yX9_hasStretch, .instanceMethod yX9_hasStretch, .selects RX9 yX9_hasStretch yX9_hasStretch, .initialized RX9, .code yX9_hasStretch cX9_hasStretch 3 (some .boolean), .fieldLink RX9 28 "SaidInWinter$Shelf" "size" "I"] ++ wsX90 ++ wsX110)
def wsX11_toll_r1 : List Cond := [Cond.fieldLink RX11 31 "SaidInWinter" "kinds" "[LSaidInWinter$Layer;", Cond.methodLink RX11 66 yX11_shelfAt, Cond.instanceMethod yX11_shelfAt, Cond.selects RX11 yX11_shelfAt yX11_shelfAt, Cond.initialized RX11, Cond.code yX11_shelfAt cX11_shelfAt 2 (some (.object "SaidInWinter$Shelf")), Cond.fieldLink RX11 54 "SaidInWinter" "shelves" "[LSaidInWinter$Shelf;", Cond.methodLink RX11 89 yX11_within, Cond.static yX11_within, Cond.code yX11_within cX11_within 3 (some .boolean), Cond.methodLink RX11 70 yX9_lacks, Cond.instanceMethod yX9_lacks, Cond.selects RX9 yX9_lacks yX9_lacks, Cond.initialized RX9, Cond.code yX9_lacks cX9_lacks 2 (some .int), Cond.fieldLink RX9 15 "SaidInWinter$Shelf" "held" "I", Cond.methodLink RX11 157 yX11_kindOf, Cond.static yX11_kindOf, Cond.code yX11_kindOf cX11_kindOf 2 (some (.object "SaidInWinter$Layer")), Cond.methodLink RX11 274 ⟨"SaidInWinter$Layer", "tollWith", "(I)I"⟩, Cond.sameMethod "SaidInWinter$Layer" "SaidInWinter$Layer" "tollWith" "(I)I", Cond.instanceMethod ⟨"SaidInWinter$Layer", "tollWith", "(I)I"⟩, Cond.selects RX0 ⟨"SaidInWinter$Layer", "tollWith", "(I)I"⟩ yX0_tollWith, Cond.instanceMethod yX0_tollWith]
def wsX11_toll_r2 : List Cond := [Cond.initialized RX0, Cond.code yX0_tollWith cX0_tollWith 2 (some .int), Cond.methodLink RX0 15 yX3_tollWith, Cond.sameMethod "SaidInWinter$Clear" "SaidInWinter$Clear" "tollWith" "(I)I", Cond.superclass RX0 RX3, Cond.instanceMethod yX3_tollWith, Cond.initialized RX3, Cond.code yX3_tollWith cX3_tollWith 2 (some .int), Cond.methodLink RX3 18 yX7_tollWith, Cond.superclass RX3 RX7, Cond.instanceMethod yX7_tollWith, Cond.initialized RX7, Cond.code yX7_tollWith cX7_tollWith 2 (some .int), Cond.selects RX1 ⟨"SaidInWinter$Layer", "tollWith", "(I)I"⟩ yX1_tollWith, Cond.instanceMethod yX1_tollWith, Cond.initialized RX1, Cond.code yX1_tollWith cX1_tollWith 2 (some .int), Cond.methodLink RX1 14 yX3_tollWith, Cond.superclass RX1 RX3, Cond.selects RX3 ⟨"SaidInWinter$Layer", "tollWith", "(I)I"⟩ yX3_tollWith, Cond.selects RX4 ⟨"SaidInWinter$Layer", "tollWith", "(I)I"⟩ yX4_tollWith, Cond.instanceMethod yX4_tollWith, Cond.initialized RX4, Cond.code yX4_tollWith cX4_tollWith 2 (some .int)]
def wsX11_toll_r3 : List Cond := [Cond.methodLink RX4 11 yX10_tollWith, Cond.sameMethod "SaidInWinter$Snow" "SaidInWinter$Snow" "tollWith" "(I)I", Cond.superclass RX4 RX10, Cond.instanceMethod yX10_tollWith, Cond.initialized RX10, Cond.code yX10_tollWith cX10_tollWith 2 (some .int), Cond.methodLink RX10 18 yX7_tollWith, Cond.superclass RX10 RX7, Cond.selects RX5 ⟨"SaidInWinter$Layer", "tollWith", "(I)I"⟩ yX5_tollWith, Cond.instanceMethod yX5_tollWith, Cond.initialized RX5, Cond.code yX5_tollWith cX5_tollWith 2 (some .int), Cond.methodLink RX5 20 yX7_tollWith, Cond.superclass RX5 RX7, Cond.methodLink RX11 274 yX7_tollWith, Cond.selects RX7 yX7_tollWith yX7_tollWith, Cond.selects RX8 ⟨"SaidInWinter$Layer", "tollWith", "(I)I"⟩ yX8_tollWith, Cond.instanceMethod yX8_tollWith, Cond.initialized RX8, Cond.code yX8_tollWith cX8_tollWith 2 (some .int), Cond.methodLink RX8 15 yX10_tollWith, Cond.superclass RX8 RX10, Cond.selects RX10 ⟨"SaidInWinter$Layer", "tollWith", "(I)I"⟩ yX10_tollWith]
def wsX11_toll : List Cond := .code yX11_toll cX11_toll 4 (some .int) :: ((wsX11_toll_r1 ++ (wsX11_toll_r2 ++ wsX11_toll_r3)) ++ wsX110 ++ wsX90)
def wsX11_caughtFailure_r1 : List Cond := [Cond.classLink RX11 258 "java/lang/IllegalStateException", Cond.classLink RX11 251 "java/lang/IllegalArgumentException", Cond.classLink RX11 323 "java/lang/UnsupportedOperationException", Cond.methodLink RX11 320 ⟨"SaidInWinter$Layer", "fail", "()V"⟩, Cond.sameMethod "SaidInWinter$Layer" "SaidInWinter$Layer" "fail" "()V", Cond.selects RX0 ⟨"SaidInWinter$Layer", "fail", "()V"⟩ yX7_fail, Cond.instanceMethod yX7_fail, Cond.initialized RX7, Cond.code yX7_fail cX7_fail 1 none, Cond.classLink RX7 7 "java/lang/IllegalStateException", Cond.initialized "java/lang/IllegalStateException", Cond.instanceMethod ⟨"SaidInWinter$Layer", "fail", "()V"⟩, Cond.selects RX1 ⟨"SaidInWinter$Layer", "fail", "()V"⟩ yX1_fail, Cond.instanceMethod yX1_fail, Cond.initialized RX1, Cond.code yX1_fail cX1_fail 1 none, Cond.classLink RX1 17 "java/lang/IllegalArgumentException", Cond.initialized "java/lang/IllegalArgumentException", Cond.selects RX3 ⟨"SaidInWinter$Layer", "fail", "()V"⟩ yX7_fail, Cond.selects RX4 ⟨"SaidInWinter$Layer", "fail", "()V"⟩ yX7_fail, Cond.selects RX5 ⟨"SaidInWinter$Layer", "fail", "()V"⟩ yX5_fail, Cond.instanceMethod yX5_fail, Cond.initialized RX5, Cond.code yX5_fail cX5_fail 1 none]
def wsX11_caughtFailure_r2 : List Cond := [Cond.methodLink RX11 320 yX7_fail, Cond.selects RX7 yX7_fail yX7_fail, Cond.selects RX8 ⟨"SaidInWinter$Layer", "fail", "()V"⟩ yX8_fail, Cond.instanceMethod yX8_fail, Cond.initialized RX8, Cond.code yX8_fail cX8_fail 1 none, Cond.classLink RX8 18 "java/lang/UnsupportedOperationException", Cond.initialized "java/lang/UnsupportedOperationException", Cond.selects RX10 ⟨"SaidInWinter$Layer", "fail", "()V"⟩ yX7_fail, Cond.methodLink RX11 274 ⟨"SaidInWinter$Layer", "tollWith", "(I)I"⟩, Cond.sameMethod "SaidInWinter$Layer" "SaidInWinter$Layer" "tollWith" "(I)I", Cond.instanceMethod ⟨"SaidInWinter$Layer", "tollWith", "(I)I"⟩, Cond.selects RX0 ⟨"SaidInWinter$Layer", "tollWith", "(I)I"⟩ yX0_tollWith, Cond.instanceMethod yX0_tollWith, Cond.initialized RX0, Cond.code yX0_tollWith cX0_tollWith 2 (some .int), Cond.methodLink RX0 15 yX3_tollWith, Cond.sameMethod "SaidInWinter$Clear" "SaidInWinter$Clear" "tollWith" "(I)I", Cond.superclass RX0 RX3, Cond.instanceMethod yX3_tollWith, Cond.initialized RX3, Cond.code yX3_tollWith cX3_tollWith 2 (some .int), Cond.methodLink RX3 18 yX7_tollWith, Cond.superclass RX3 RX7]
def wsX11_caughtFailure_r3 : List Cond := [Cond.instanceMethod yX7_tollWith, Cond.code yX7_tollWith cX7_tollWith 2 (some .int), Cond.selects RX1 ⟨"SaidInWinter$Layer", "tollWith", "(I)I"⟩ yX1_tollWith, Cond.instanceMethod yX1_tollWith, Cond.code yX1_tollWith cX1_tollWith 2 (some .int), Cond.methodLink RX1 14 yX3_tollWith, Cond.superclass RX1 RX3, Cond.selects RX3 ⟨"SaidInWinter$Layer", "tollWith", "(I)I"⟩ yX3_tollWith, Cond.selects RX4 ⟨"SaidInWinter$Layer", "tollWith", "(I)I"⟩ yX4_tollWith, Cond.instanceMethod yX4_tollWith, Cond.initialized RX4, Cond.code yX4_tollWith cX4_tollWith 2 (some .int), Cond.methodLink RX4 11 yX10_tollWith, Cond.sameMethod "SaidInWinter$Snow" "SaidInWinter$Snow" "tollWith" "(I)I", Cond.superclass RX4 RX10, Cond.instanceMethod yX10_tollWith, Cond.initialized RX10, Cond.code yX10_tollWith cX10_tollWith 2 (some .int), Cond.methodLink RX10 18 yX7_tollWith, Cond.superclass RX10 RX7, Cond.selects RX5 ⟨"SaidInWinter$Layer", "tollWith", "(I)I"⟩ yX5_tollWith, Cond.instanceMethod yX5_tollWith, Cond.code yX5_tollWith cX5_tollWith 2 (some .int), Cond.methodLink RX5 20 yX7_tollWith]
def wsX11_caughtFailure_r4 : List Cond := [Cond.superclass RX5 RX7, Cond.methodLink RX11 274 yX7_tollWith, Cond.selects RX7 yX7_tollWith yX7_tollWith, Cond.selects RX8 ⟨"SaidInWinter$Layer", "tollWith", "(I)I"⟩ yX8_tollWith, Cond.instanceMethod yX8_tollWith, Cond.code yX8_tollWith cX8_tollWith 2 (some .int), Cond.methodLink RX8 15 yX10_tollWith, Cond.superclass RX8 RX10, Cond.selects RX10 ⟨"SaidInWinter$Layer", "tollWith", "(I)I"⟩ yX10_tollWith]
def wsX11_caughtFailure : List Cond := .codeWith yX11_caughtFailure cX11_caughtFailure 3 (some .int) [(7, 11, 14, 258), (7, 11, 17, 251), (7, 11, 23, 323)] :: ((wsX11_caughtFailure_r1 ++ (wsX11_caughtFailure_r2 ++ (wsX11_caughtFailure_r3 ++ wsX11_caughtFailure_r4))) ++ (vx_atS RX7 11 "java/lang/IllegalStateException" ["java/lang/RuntimeException", "java/lang/Exception"]).filter goodWord ++ (vx_atS RX1 21 "java/lang/IllegalArgumentException" ["java/lang/RuntimeException", "java/lang/Exception"]).filter goodWord ++ (vx_atS RX8 22 "java/lang/UnsupportedOperationException" ["java/lang/RuntimeException", "java/lang/Exception"]).filter goodWord)
def wsX11_toss_r1 : List Cond := [Cond.fieldLink RX11 31 "SaidInWinter" "kinds" "[LSaidInWinter$Layer;", Cond.methodLink RX11 66 yX11_shelfAt, Cond.instanceMethod yX11_shelfAt, Cond.selects RX11 yX11_shelfAt yX11_shelfAt, Cond.initialized RX11, Cond.code yX11_shelfAt cX11_shelfAt 2 (some (.object "SaidInWinter$Shelf")), Cond.fieldLink RX11 54 "SaidInWinter" "shelves" "[LSaidInWinter$Shelf;", Cond.methodLink RX11 89 yX11_within, Cond.static yX11_within, Cond.code yX11_within cX11_within 3 (some .boolean), Cond.methodLink RX11 70 yX9_lacks, Cond.instanceMethod yX9_lacks, Cond.selects RX9 yX9_lacks yX9_lacks, Cond.initialized RX9, Cond.code yX9_lacks cX9_lacks 2 (some .int), Cond.fieldLink RX9 15 "SaidInWinter$Shelf" "held" "I", Cond.methodLink RX11 157 yX11_kindOf, Cond.static yX11_kindOf, Cond.code yX11_kindOf cX11_kindOf 2 (some (.object "SaidInWinter$Layer")), Cond.methodLink RX11 277 yX11_caughtFailure, Cond.static yX11_caughtFailure, Cond.codeWith yX11_caughtFailure cX11_caughtFailure 3 (some .int) [(7, 11, 14, 258), (7, 11, 17, 251), (7, 11, 23, 323)], Cond.classLink RX11 258 "java/lang/IllegalStateException", Cond.classLink RX11 251 "java/lang/IllegalArgumentException"]
def wsX11_toss_r2 : List Cond := [Cond.classLink RX11 323 "java/lang/UnsupportedOperationException", Cond.methodLink RX11 320 ⟨"SaidInWinter$Layer", "fail", "()V"⟩, Cond.sameMethod "SaidInWinter$Layer" "SaidInWinter$Layer" "fail" "()V", Cond.selects RX0 ⟨"SaidInWinter$Layer", "fail", "()V"⟩ yX7_fail, Cond.instanceMethod yX7_fail, Cond.initialized RX7, Cond.code yX7_fail cX7_fail 1 none, Cond.classLink RX7 7 "java/lang/IllegalStateException", Cond.initialized "java/lang/IllegalStateException", Cond.instanceMethod ⟨"SaidInWinter$Layer", "fail", "()V"⟩, Cond.selects RX1 ⟨"SaidInWinter$Layer", "fail", "()V"⟩ yX1_fail, Cond.instanceMethod yX1_fail, Cond.initialized RX1, Cond.code yX1_fail cX1_fail 1 none, Cond.classLink RX1 17 "java/lang/IllegalArgumentException", Cond.initialized "java/lang/IllegalArgumentException", Cond.selects RX3 ⟨"SaidInWinter$Layer", "fail", "()V"⟩ yX7_fail, Cond.selects RX4 ⟨"SaidInWinter$Layer", "fail", "()V"⟩ yX7_fail, Cond.selects RX5 ⟨"SaidInWinter$Layer", "fail", "()V"⟩ yX5_fail, Cond.instanceMethod yX5_fail, Cond.initialized RX5, Cond.code yX5_fail cX5_fail 1 none, Cond.methodLink RX11 320 yX7_fail, Cond.selects RX7 yX7_fail yX7_fail]
def wsX11_toss_r3 : List Cond := [Cond.selects RX8 ⟨"SaidInWinter$Layer", "fail", "()V"⟩ yX8_fail, Cond.instanceMethod yX8_fail, Cond.initialized RX8, Cond.code yX8_fail cX8_fail 1 none, Cond.classLink RX8 18 "java/lang/UnsupportedOperationException", Cond.initialized "java/lang/UnsupportedOperationException", Cond.selects RX10 ⟨"SaidInWinter$Layer", "fail", "()V"⟩ yX7_fail, Cond.methodLink RX11 274 ⟨"SaidInWinter$Layer", "tollWith", "(I)I"⟩, Cond.sameMethod "SaidInWinter$Layer" "SaidInWinter$Layer" "tollWith" "(I)I", Cond.instanceMethod ⟨"SaidInWinter$Layer", "tollWith", "(I)I"⟩, Cond.selects RX0 ⟨"SaidInWinter$Layer", "tollWith", "(I)I"⟩ yX0_tollWith, Cond.instanceMethod yX0_tollWith, Cond.initialized RX0, Cond.code yX0_tollWith cX0_tollWith 2 (some .int), Cond.methodLink RX0 15 yX3_tollWith, Cond.sameMethod "SaidInWinter$Clear" "SaidInWinter$Clear" "tollWith" "(I)I", Cond.superclass RX0 RX3, Cond.instanceMethod yX3_tollWith, Cond.initialized RX3, Cond.code yX3_tollWith cX3_tollWith 2 (some .int), Cond.methodLink RX3 18 yX7_tollWith, Cond.superclass RX3 RX7, Cond.instanceMethod yX7_tollWith, Cond.code yX7_tollWith cX7_tollWith 2 (some .int)]
def wsX11_toss_r4 : List Cond := [Cond.selects RX1 ⟨"SaidInWinter$Layer", "tollWith", "(I)I"⟩ yX1_tollWith, Cond.instanceMethod yX1_tollWith, Cond.code yX1_tollWith cX1_tollWith 2 (some .int), Cond.methodLink RX1 14 yX3_tollWith, Cond.superclass RX1 RX3, Cond.selects RX3 ⟨"SaidInWinter$Layer", "tollWith", "(I)I"⟩ yX3_tollWith, Cond.selects RX4 ⟨"SaidInWinter$Layer", "tollWith", "(I)I"⟩ yX4_tollWith, Cond.instanceMethod yX4_tollWith, Cond.initialized RX4, Cond.code yX4_tollWith cX4_tollWith 2 (some .int), Cond.methodLink RX4 11 yX10_tollWith, Cond.sameMethod "SaidInWinter$Snow" "SaidInWinter$Snow" "tollWith" "(I)I", Cond.superclass RX4 RX10, Cond.instanceMethod yX10_tollWith, Cond.initialized RX10, Cond.code yX10_tollWith cX10_tollWith 2 (some .int), Cond.methodLink RX10 18 yX7_tollWith, Cond.superclass RX10 RX7, Cond.selects RX5 ⟨"SaidInWinter$Layer", "tollWith", "(I)I"⟩ yX5_tollWith, Cond.instanceMethod yX5_tollWith, Cond.code yX5_tollWith cX5_tollWith 2 (some .int), Cond.methodLink RX5 20 yX7_tollWith, Cond.superclass RX5 RX7, Cond.methodLink RX11 274 yX7_tollWith]
def wsX11_toss_r5 : List Cond := [Cond.selects RX7 yX7_tollWith yX7_tollWith, Cond.selects RX8 ⟨"SaidInWinter$Layer", "tollWith", "(I)I"⟩ yX8_tollWith, Cond.instanceMethod yX8_tollWith, Cond.code yX8_tollWith cX8_tollWith 2 (some .int), Cond.methodLink RX8 15 yX10_tollWith, Cond.superclass RX8 RX10, Cond.selects RX10 ⟨"SaidInWinter$Layer", "tollWith", "(I)I"⟩ yX10_tollWith]
def wsX11_toss : List Cond := .code yX11_toss cX11_toss 4 (some .int) :: ((wsX11_toss_r1 ++ (wsX11_toss_r2 ++ (wsX11_toss_r3 ++ (wsX11_toss_r4 ++ wsX11_toss_r5)))) ++ wsX110 ++ wsX90 ++ (vx_atS RX7 11 "java/lang/IllegalStateException" ["java/lang/RuntimeException", "java/lang/Exception"]).filter goodWord ++ (vx_atS RX1 21 "java/lang/IllegalArgumentException" ["java/lang/RuntimeException", "java/lang/Exception"]).filter goodWord ++ (vx_atS RX8 22 "java/lang/UnsupportedOperationException" ["java/lang/RuntimeException", "java/lang/Exception"]).filter goodWord)
def wsX12_init : List Cond := .code yX12_init cX12_init 1 none :: ([.methodLink RX12 1 objectInit, .instanceMethod objectInit, .code objectInit ⟨#[0xb1]⟩ 1 none, .arrayClass .int, .fieldLink RX12 7 "SaidInWinterModel" "many" "[I", .fieldLink RX12 13 "SaidInWinterModel" "kinds" "[I", .fieldLink RX12 16 "SaidInWinterModel" "oaths" "[I", .fieldLink RX12 19 "SaidInWinterModel" "froze" "[I", .fieldLink RX12 22 "SaidInWinterModel" "fingers" "[I", .fieldLink RX12 25 "SaidInWinterModel" "kept" "[I", .fieldLink RX12 28 "SaidInWinterModel" "imaged" "[I", .fieldLink RX12 31 "SaidInWinterModel" "placeOf" "[I", .fieldLink RX12 34 "SaidInWinterModel" "letterOf" "[I", .fieldLink RX12 37 "SaidInWinterModel" "told" "[I", .fieldLink RX12 40 "SaidInWinterModel" "holdsWhat" "[I", .fieldLink RX12 43 "SaidInWinterModel" "layerKind" "[I", .fieldLink RX12 46 "SaidInWinterModel" "layerOath" "[I", .fieldLink RX12 49 "SaidInWinterModel" "rowSort" "[I", .fieldLink RX12 52 "SaidInWinterModel" "rowMany" "[I", .arrayClass .long, .fieldLink RX12 55 "SaidInWinterModel" "rows" "[J", .fieldLink RX12 59 "SaidInWinterModel" "between" "[J", .fieldLink RX12 62 "SaidInWinterModel" "thrown" "I"] ++ wsX120)
def wsX12_thrown : List Cond := .code yX12_thrown cX12_thrown 1 (some .int) :: ([.fieldLink RX12 62 "SaidInWinterModel" "thrown" "I"] ++ wsX120)
def wsX12_in : List Cond := .code yX12_in cX12_in 6 (some .boolean) :: ([])
def wsX12_isCell : List Cond := .code yX12_isCell cX12_isCell 1 (some .boolean) :: ([.constantLong RX12 66 (5), .methodLink RX12 68 yX12_in, .static yX12_in, .initialized RX12, .code yX12_in cX12_in 6 (some .boolean)])
def wsX12_thickOf : List Cond := .code yX12_thickOf cX12_thickOf 3 (some .int) :: ([])
def wsX12_meltsOf : List Cond := .code yX12_meltsOf cX12_meltsOf 2 (some .int) :: ([])
def wsX12_lightOf : List Cond := .code yX12_lightOf cX12_lightOf 2 (some .int) :: ([])
def wsX12_tollOf : List Cond := .code yX12_tollOf cX12_tollOf 2 (some .int) :: ([])
def wsX12_freezes : List Cond := .code yX12_freezes cX12_freezes 6 (some .boolean) :: ([.fieldLink RX12 7 "SaidInWinterModel" "many" "[I", .fieldLink RX12 13 "SaidInWinterModel" "kinds" "[I", .fieldLink RX12 16 "SaidInWinterModel" "oaths" "[I", .fieldLink RX12 19 "SaidInWinterModel" "froze" "[I", .fieldLink RX12 72 "SaidInWinterModel" "winters" "I", .fieldLink RX12 22 "SaidInWinterModel" "fingers" "[I", .methodLink RX12 75 yX12_thickOf, .static yX12_thickOf, .initialized RX12, .code yX12_thickOf cX12_thickOf 3 (some .int)] ++ wsX120)
def wsX12_warmDay : List Cond := .code yX12_warmDay cX12_warmDay 5 (some .int) :: ([.fieldLink RX12 7 "SaidInWinterModel" "many" "[I", .fieldLink RX12 22 "SaidInWinterModel" "fingers" "[I", .fieldLink RX12 13 "SaidInWinterModel" "kinds" "[I", .fieldLink RX12 16 "SaidInWinterModel" "oaths" "[I", .methodLink RX12 79 yX12_meltsOf, .static yX12_meltsOf, .initialized RX12, .code yX12_meltsOf cX12_meltsOf 2 (some .int)] ++ wsX120)
def wsX12_cuts : List Cond := .code yX12_cuts cX12_cuts 8 (some .int) :: ([.fieldLink RX12 7 "SaidInWinterModel" "many" "[I", .fieldLink RX12 22 "SaidInWinterModel" "fingers" "[I"] ++ wsX120)
def wsX12_swapInts : List Cond := .code yX12_swapInts cX12_swapInts 5 none :: ([])
def wsX12_drifts : List Cond := .code yX12_drifts cX12_drifts 4 none :: ([.fieldLink RX12 7 "SaidInWinterModel" "many" "[I", .fieldLink RX12 13 "SaidInWinterModel" "kinds" "[I", .fieldLink RX12 16 "SaidInWinterModel" "oaths" "[I", .fieldLink RX12 19 "SaidInWinterModel" "froze" "[I", .fieldLink RX12 22 "SaidInWinterModel" "fingers" "[I", .methodLink RX12 83 yX12_swapInts, .instanceMethod yX12_swapInts, .selects RX12 yX12_swapInts yX12_swapInts, .initialized RX12, .code yX12_swapInts cX12_swapInts 5 none] ++ wsX120)
def wsX12_carry : List Cond := .code yX12_carry cX12_carry 2 (some .int) :: ([.fieldLink RX12 87 "SaidInWinterModel" "isTaking" "Z", .fieldLink RX12 91 "SaidInWinterModel" "keptIn" "[I", .fieldLink RX12 94 "SaidInWinterModel" "place" "I"] ++ wsX120)
def wsX12_carryAll : List Cond := .code yX12_carryAll cX12_carryAll 4 none :: ([.fieldLink RX12 91 "SaidInWinterModel" "keptIn" "[I", .fieldLink RX12 87 "SaidInWinterModel" "isTaking" "Z", .fieldLink RX12 94 "SaidInWinterModel" "place" "I", .fieldLink RX12 72 "SaidInWinterModel" "winters" "I", .fieldLink RX12 7 "SaidInWinterModel" "many" "[I", .fieldLink RX12 13 "SaidInWinterModel" "kinds" "[I", .fieldLink RX12 16 "SaidInWinterModel" "oaths" "[I", .fieldLink RX12 19 "SaidInWinterModel" "froze" "[I", .fieldLink RX12 22 "SaidInWinterModel" "fingers" "[I", .methodLink RX12 97 yX12_carry, .instanceMethod yX12_carry, .selects RX12 yX12_carry yX12_carry, .initialized RX12, .code yX12_carry cX12_carry 2 (some .int)] ++ wsX120)
def wsX12_open : List Cond := .code yX12_open cX12_open 1 none :: ([.fieldLink RX12 25 "SaidInWinterModel" "kept" "[I", .methodLink RX12 101 yX12_carryAll, .instanceMethod yX12_carryAll, .selects RX12 yX12_carryAll yX12_carryAll, .initialized RX12, .code yX12_carryAll cX12_carryAll 4 none, .fieldLink RX12 91 "SaidInWinterModel" "keptIn" "[I", .fieldLink RX12 87 "SaidInWinterModel" "isTaking" "Z", .fieldLink RX12 94 "SaidInWinterModel" "place" "I", .fieldLink RX12 72 "SaidInWinterModel" "winters" "I", .fieldLink RX12 7 "SaidInWinterModel" "many" "[I", .fieldLink RX12 13 "SaidInWinterModel" "kinds" "[I", .fieldLink RX12 16 "SaidInWinterModel" "oaths" "[I", .fieldLink RX12 19 "SaidInWinterModel" "froze" "[I", .fieldLink RX12 22 "SaidInWinterModel" "fingers" "[I", .methodLink RX12 97 yX12_carry, .instanceMethod yX12_carry, .selects RX12 yX12_carry yX12_carry, .code yX12_carry cX12_carry 2 (some .int)] ++ wsX120)
def wsX12_close : List Cond := .code yX12_close cX12_close 1 none :: ([.fieldLink RX12 25 "SaidInWinterModel" "kept" "[I", .methodLink RX12 101 yX12_carryAll, .instanceMethod yX12_carryAll, .selects RX12 yX12_carryAll yX12_carryAll, .initialized RX12, .code yX12_carryAll cX12_carryAll 4 none, .fieldLink RX12 91 "SaidInWinterModel" "keptIn" "[I", .fieldLink RX12 87 "SaidInWinterModel" "isTaking" "Z", .fieldLink RX12 94 "SaidInWinterModel" "place" "I", .fieldLink RX12 72 "SaidInWinterModel" "winters" "I", .fieldLink RX12 7 "SaidInWinterModel" "many" "[I", .fieldLink RX12 13 "SaidInWinterModel" "kinds" "[I", .fieldLink RX12 16 "SaidInWinterModel" "oaths" "[I", .fieldLink RX12 19 "SaidInWinterModel" "froze" "[I", .fieldLink RX12 22 "SaidInWinterModel" "fingers" "[I", .methodLink RX12 97 yX12_carry, .instanceMethod yX12_carry, .selects RX12 yX12_carry yX12_carry, .code yX12_carry cX12_carry 2 (some .int)] ++ wsX120)
def wsX12_iceOf : List Cond := .code yX12_iceOf cX12_iceOf 4 (some .int) :: ([.fieldLink RX12 7 "SaidInWinterModel" "many" "[I", .fieldLink RX12 22 "SaidInWinterModel" "fingers" "[I"] ++ wsX120)
def wsX12_iceOfAll : List Cond := .code yX12_iceOfAll cX12_iceOfAll 3 (some .int) :: ([.methodLink RX12 105 yX12_iceOf, .instanceMethod yX12_iceOf, .selects RX12 yX12_iceOf yX12_iceOf, .initialized RX12, .code yX12_iceOf cX12_iceOf 4 (some .int), .fieldLink RX12 7 "SaidInWinterModel" "many" "[I", .fieldLink RX12 22 "SaidInWinterModel" "fingers" "[I"] ++ wsX120)
def wsX12_image_r1 : List Cond := [Cond.fieldLink RX12 62 "SaidInWinterModel" "thrown" "I", Cond.fieldLink RX12 108 "SaidInWinterModel" "hasImage" "Z", Cond.fieldLink RX12 28 "SaidInWinterModel" "imaged" "[I", Cond.methodLink RX12 101 yX12_carryAll, Cond.instanceMethod yX12_carryAll, Cond.selects RX12 yX12_carryAll yX12_carryAll, Cond.initialized RX12, Cond.code yX12_carryAll cX12_carryAll 4 none, Cond.fieldLink RX12 91 "SaidInWinterModel" "keptIn" "[I", Cond.fieldLink RX12 87 "SaidInWinterModel" "isTaking" "Z", Cond.fieldLink RX12 94 "SaidInWinterModel" "place" "I", Cond.fieldLink RX12 72 "SaidInWinterModel" "winters" "I", Cond.fieldLink RX12 7 "SaidInWinterModel" "many" "[I", Cond.fieldLink RX12 13 "SaidInWinterModel" "kinds" "[I", Cond.fieldLink RX12 16 "SaidInWinterModel" "oaths" "[I", Cond.fieldLink RX12 19 "SaidInWinterModel" "froze" "[I", Cond.fieldLink RX12 22 "SaidInWinterModel" "fingers" "[I", Cond.methodLink RX12 97 yX12_carry, Cond.instanceMethod yX12_carry, Cond.selects RX12 yX12_carry yX12_carry, Cond.code yX12_carry cX12_carry 2 (some .int), Cond.methodLink RX12 111 yX12_iceOfAll, Cond.instanceMethod yX12_iceOfAll, Cond.selects RX12 yX12_iceOfAll yX12_iceOfAll]
def wsX12_image_r2 : List Cond := [Cond.code yX12_iceOfAll cX12_iceOfAll 3 (some .int), Cond.methodLink RX12 105 yX12_iceOf, Cond.instanceMethod yX12_iceOf, Cond.selects RX12 yX12_iceOf yX12_iceOf, Cond.code yX12_iceOf cX12_iceOf 4 (some .int)]
def wsX12_image : List Cond := .code yX12_image cX12_image 1 (some .int) :: ((wsX12_image_r1 ++ wsX12_image_r2) ++ wsX120)
def wsX12_restore_r1 : List Cond := [Cond.fieldLink RX12 62 "SaidInWinterModel" "thrown" "I", Cond.fieldLink RX12 108 "SaidInWinterModel" "hasImage" "Z", Cond.fieldLink RX12 28 "SaidInWinterModel" "imaged" "[I", Cond.methodLink RX12 101 yX12_carryAll, Cond.instanceMethod yX12_carryAll, Cond.selects RX12 yX12_carryAll yX12_carryAll, Cond.initialized RX12, Cond.code yX12_carryAll cX12_carryAll 4 none, Cond.fieldLink RX12 91 "SaidInWinterModel" "keptIn" "[I", Cond.fieldLink RX12 87 "SaidInWinterModel" "isTaking" "Z", Cond.fieldLink RX12 94 "SaidInWinterModel" "place" "I", Cond.fieldLink RX12 72 "SaidInWinterModel" "winters" "I", Cond.fieldLink RX12 7 "SaidInWinterModel" "many" "[I", Cond.fieldLink RX12 13 "SaidInWinterModel" "kinds" "[I", Cond.fieldLink RX12 16 "SaidInWinterModel" "oaths" "[I", Cond.fieldLink RX12 19 "SaidInWinterModel" "froze" "[I", Cond.fieldLink RX12 22 "SaidInWinterModel" "fingers" "[I", Cond.methodLink RX12 97 yX12_carry, Cond.instanceMethod yX12_carry, Cond.selects RX12 yX12_carry yX12_carry, Cond.code yX12_carry cX12_carry 2 (some .int), Cond.methodLink RX12 111 yX12_iceOfAll, Cond.instanceMethod yX12_iceOfAll, Cond.selects RX12 yX12_iceOfAll yX12_iceOfAll]
def wsX12_restore_r2 : List Cond := [Cond.code yX12_iceOfAll cX12_iceOfAll 3 (some .int), Cond.methodLink RX12 105 yX12_iceOf, Cond.instanceMethod yX12_iceOf, Cond.selects RX12 yX12_iceOf yX12_iceOf, Cond.code yX12_iceOf cX12_iceOf 4 (some .int)]
def wsX12_restore : List Cond := .code yX12_restore cX12_restore 1 (some .int) :: ((wsX12_restore_r1 ++ wsX12_restore_r2) ++ wsX120)
def wsX12_here : List Cond := .code yX12_here cX12_here 1 (some .int) :: ([.fieldLink RX12 115 "SaidInWinterModel" "at" "I", .fieldLink RX12 118 "SaidInWinterModel" "end" "I", .fieldLink RX12 55 "SaidInWinterModel" "rows" "[J", .fieldLink RX12 121 "SaidInWinterModel" "base" "I"] ++ wsX120)
def wsX12_readDigit : List Cond := .code yX12_readDigit cX12_readDigit 1 (some .int) :: ([.fieldLink RX12 124 "SaidInWinterModel" "isBad" "Z", .constantLong RX12 130 (48), .constantLong RX12 132 (57), .fieldLink RX12 115 "SaidInWinterModel" "at" "I", .fieldLink RX12 55 "SaidInWinterModel" "rows" "[J", .fieldLink RX12 121 "SaidInWinterModel" "base" "I", .methodLink RX12 127 yX12_here, .instanceMethod yX12_here, .selects RX12 yX12_here yX12_here, .initialized RX12, .code yX12_here cX12_here 1 (some .int), .fieldLink RX12 118 "SaidInWinterModel" "end" "I", .methodLink RX12 68 yX12_in, .static yX12_in, .code yX12_in cX12_in 6 (some .boolean)] ++ wsX120)
def wsX12_readStatement : List Cond := .code yX12_readStatement cX12_readStatement 5 none :: ([.fieldLink RX12 134 "SaidInWinterModel" "statements" "I", .fieldLink RX12 31 "SaidInWinterModel" "placeOf" "[I", .fieldLink RX12 115 "SaidInWinterModel" "at" "I", .fieldLink RX12 34 "SaidInWinterModel" "letterOf" "[I", .fieldLink RX12 124 "SaidInWinterModel" "isBad" "Z", .fieldLink RX12 37 "SaidInWinterModel" "told" "[I", .methodLink RX12 127 yX12_here, .instanceMethod yX12_here, .selects RX12 yX12_here yX12_here, .initialized RX12, .code yX12_here cX12_here 1 (some .int), .fieldLink RX12 118 "SaidInWinterModel" "end" "I", .fieldLink RX12 55 "SaidInWinterModel" "rows" "[J", .fieldLink RX12 121 "SaidInWinterModel" "base" "I", .methodLink RX12 137 yX12_readDigit, .instanceMethod yX12_readDigit, .selects RX12 yX12_readDigit yX12_readDigit, .code yX12_readDigit cX12_readDigit 1 (some .int), .constantLong RX12 130 (48), .constantLong RX12 132 (57), .methodLink RX12 68 yX12_in, .static yX12_in, .code yX12_in cX12_in 6 (some .boolean)] ++ wsX120)
def wsX12_comes_r1 : List Cond := [Cond.fieldLink RX12 37 "SaidInWinterModel" "told" "[I", Cond.fieldLink RX12 34 "SaidInWinterModel" "letterOf" "[I", Cond.fieldLink RX12 72 "SaidInWinterModel" "winters" "I", Cond.methodLink RX12 140 yX12_freezes, Cond.instanceMethod yX12_freezes, Cond.selects RX12 yX12_freezes yX12_freezes, Cond.initialized RX12, Cond.code yX12_freezes cX12_freezes 6 (some .boolean), Cond.fieldLink RX12 7 "SaidInWinterModel" "many" "[I", Cond.fieldLink RX12 13 "SaidInWinterModel" "kinds" "[I", Cond.fieldLink RX12 16 "SaidInWinterModel" "oaths" "[I", Cond.fieldLink RX12 19 "SaidInWinterModel" "froze" "[I", Cond.fieldLink RX12 22 "SaidInWinterModel" "fingers" "[I", Cond.methodLink RX12 75 yX12_thickOf, Cond.static yX12_thickOf, Cond.code yX12_thickOf cX12_thickOf 3 (some .int), Cond.methodLink RX12 144 yX12_warmDay, Cond.instanceMethod yX12_warmDay, Cond.selects RX12 yX12_warmDay yX12_warmDay, Cond.code yX12_warmDay cX12_warmDay 5 (some .int), Cond.methodLink RX12 79 yX12_meltsOf, Cond.static yX12_meltsOf, Cond.code yX12_meltsOf cX12_meltsOf 2 (some .int), Cond.methodLink RX12 147 yX12_cuts]
def wsX12_comes_r2 : List Cond := [Cond.instanceMethod yX12_cuts, Cond.selects RX12 yX12_cuts yX12_cuts, Cond.code yX12_cuts cX12_cuts 8 (some .int), Cond.methodLink RX12 150 yX12_drifts, Cond.instanceMethod yX12_drifts, Cond.selects RX12 yX12_drifts yX12_drifts, Cond.code yX12_drifts cX12_drifts 4 none, Cond.methodLink RX12 83 yX12_swapInts, Cond.instanceMethod yX12_swapInts, Cond.selects RX12 yX12_swapInts yX12_swapInts, Cond.code yX12_swapInts cX12_swapInts 5 none]
def wsX12_comes : List Cond := .code yX12_comes cX12_comes 7 (some .boolean) :: ((wsX12_comes_r1 ++ wsX12_comes_r2) ++ wsX120)
def wsX12_wrongRow : List Cond := .code yX12_wrongRow cX12_wrongRow 2 (some .int) :: ([.constantLong RX12 169 (7), .fieldLink RX12 40 "SaidInWinterModel" "holdsWhat" "[I", .methodLink RX12 68 yX12_in, .static yX12_in, .initialized RX12, .code yX12_in cX12_in 6 (some .boolean)] ++ wsX120)
def wsX12_wrongSort : List Cond := .code yX12_wrongSort cX12_wrongSort 3 (some .int) :: ([.fieldLink RX12 49 "SaidInWinterModel" "rowSort" "[I", .methodLink RX12 244 yX12_wrongRow, .instanceMethod yX12_wrongRow, .selects RX12 yX12_wrongRow yX12_wrongRow, .initialized RX12, .code yX12_wrongRow cX12_wrongRow 2 (some .int), .constantLong RX12 169 (7), .fieldLink RX12 40 "SaidInWinterModel" "holdsWhat" "[I", .methodLink RX12 68 yX12_in, .static yX12_in, .code yX12_in cX12_in 6 (some .boolean)] ++ wsX120)
def wsX12_lake_r1 : List Cond := [Cond.fieldLink RX12 62 "SaidInWinterModel" "thrown" "I", Cond.fieldLink RX12 121 "SaidInWinterModel" "base" "I", Cond.fieldLink RX12 52 "SaidInWinterModel" "rowMany" "[I", Cond.fieldLink RX12 118 "SaidInWinterModel" "end" "I", Cond.fieldLink RX12 115 "SaidInWinterModel" "at" "I", Cond.fieldLink RX12 124 "SaidInWinterModel" "isBad" "Z", Cond.fieldLink RX12 134 "SaidInWinterModel" "statements" "I", Cond.fieldLink RX12 31 "SaidInWinterModel" "placeOf" "[I", Cond.methodLink RX12 153 yX12_wrongSort, Cond.instanceMethod yX12_wrongSort, Cond.selects RX12 yX12_wrongSort yX12_wrongSort, Cond.initialized RX12, Cond.code yX12_wrongSort cX12_wrongSort 3 (some .int), Cond.fieldLink RX12 49 "SaidInWinterModel" "rowSort" "[I", Cond.methodLink RX12 244 yX12_wrongRow, Cond.instanceMethod yX12_wrongRow, Cond.selects RX12 yX12_wrongRow yX12_wrongRow, Cond.code yX12_wrongRow cX12_wrongRow 2 (some .int), Cond.constantLong RX12 169 (7), Cond.fieldLink RX12 40 "SaidInWinterModel" "holdsWhat" "[I", Cond.methodLink RX12 68 yX12_in, Cond.static yX12_in, Cond.code yX12_in cX12_in 6 (some .boolean), Cond.methodLink RX12 156 yX12_readStatement]
def wsX12_lake_r2 : List Cond := [Cond.instanceMethod yX12_readStatement, Cond.selects RX12 yX12_readStatement yX12_readStatement, Cond.code yX12_readStatement cX12_readStatement 5 none, Cond.fieldLink RX12 34 "SaidInWinterModel" "letterOf" "[I", Cond.fieldLink RX12 37 "SaidInWinterModel" "told" "[I", Cond.methodLink RX12 127 yX12_here, Cond.instanceMethod yX12_here, Cond.selects RX12 yX12_here yX12_here, Cond.code yX12_here cX12_here 1 (some .int), Cond.fieldLink RX12 55 "SaidInWinterModel" "rows" "[J", Cond.methodLink RX12 137 yX12_readDigit, Cond.instanceMethod yX12_readDigit, Cond.selects RX12 yX12_readDigit yX12_readDigit, Cond.code yX12_readDigit cX12_readDigit 1 (some .int), Cond.constantLong RX12 130 (48), Cond.constantLong RX12 132 (57), Cond.methodLink RX12 159 yX12_open, Cond.instanceMethod yX12_open, Cond.selects RX12 yX12_open yX12_open, Cond.code yX12_open cX12_open 1 none, Cond.fieldLink RX12 25 "SaidInWinterModel" "kept" "[I", Cond.methodLink RX12 101 yX12_carryAll, Cond.instanceMethod yX12_carryAll, Cond.selects RX12 yX12_carryAll yX12_carryAll]
def wsX12_lake_r3 : List Cond := [Cond.code yX12_carryAll cX12_carryAll 4 none, Cond.fieldLink RX12 91 "SaidInWinterModel" "keptIn" "[I", Cond.fieldLink RX12 87 "SaidInWinterModel" "isTaking" "Z", Cond.fieldLink RX12 94 "SaidInWinterModel" "place" "I", Cond.fieldLink RX12 72 "SaidInWinterModel" "winters" "I", Cond.fieldLink RX12 7 "SaidInWinterModel" "many" "[I", Cond.fieldLink RX12 13 "SaidInWinterModel" "kinds" "[I", Cond.fieldLink RX12 16 "SaidInWinterModel" "oaths" "[I", Cond.fieldLink RX12 19 "SaidInWinterModel" "froze" "[I", Cond.fieldLink RX12 22 "SaidInWinterModel" "fingers" "[I", Cond.methodLink RX12 97 yX12_carry, Cond.instanceMethod yX12_carry, Cond.selects RX12 yX12_carry yX12_carry, Cond.code yX12_carry cX12_carry 2 (some .int), Cond.methodLink RX12 162 yX12_comes, Cond.instanceMethod yX12_comes, Cond.selects RX12 yX12_comes yX12_comes, Cond.code yX12_comes cX12_comes 7 (some .boolean), Cond.methodLink RX12 140 yX12_freezes, Cond.instanceMethod yX12_freezes, Cond.selects RX12 yX12_freezes yX12_freezes, Cond.code yX12_freezes cX12_freezes 6 (some .boolean), Cond.methodLink RX12 75 yX12_thickOf, Cond.static yX12_thickOf]
def wsX12_lake_r4 : List Cond := [Cond.code yX12_thickOf cX12_thickOf 3 (some .int), Cond.methodLink RX12 144 yX12_warmDay, Cond.instanceMethod yX12_warmDay, Cond.selects RX12 yX12_warmDay yX12_warmDay, Cond.code yX12_warmDay cX12_warmDay 5 (some .int), Cond.methodLink RX12 79 yX12_meltsOf, Cond.static yX12_meltsOf, Cond.code yX12_meltsOf cX12_meltsOf 2 (some .int), Cond.methodLink RX12 147 yX12_cuts, Cond.instanceMethod yX12_cuts, Cond.selects RX12 yX12_cuts yX12_cuts, Cond.code yX12_cuts cX12_cuts 8 (some .int), Cond.methodLink RX12 150 yX12_drifts, Cond.instanceMethod yX12_drifts, Cond.selects RX12 yX12_drifts yX12_drifts, Cond.code yX12_drifts cX12_drifts 4 none, Cond.methodLink RX12 83 yX12_swapInts, Cond.instanceMethod yX12_swapInts, Cond.selects RX12 yX12_swapInts yX12_swapInts, Cond.code yX12_swapInts cX12_swapInts 5 none, Cond.methodLink RX12 166 yX12_close, Cond.instanceMethod yX12_close, Cond.selects RX12 yX12_close yX12_close, Cond.code yX12_close cX12_close 1 none]
def wsX12_lake : List Cond := .code yX12_lake cX12_lake 4 (some .int) :: ((wsX12_lake_r1 ++ (wsX12_lake_r2 ++ (wsX12_lake_r3 ++ wsX12_lake_r4))) ++ wsX120)
def wsX12_wrongLayer : List Cond := .code yX12_wrongLayer cX12_wrongLayer 2 (some .int) :: ([.constantLong RX12 169 (7), .fieldLink RX12 40 "SaidInWinterModel" "holdsWhat" "[I", .methodLink RX12 68 yX12_in, .static yX12_in, .initialized RX12, .code yX12_in cX12_in 6 (some .boolean)] ++ wsX120)
def wsX12_freeze_r1 : List Cond := [Cond.fieldLink RX12 62 "SaidInWinterModel" "thrown" "I", Cond.constantLong RX12 174 (9), Cond.fieldLink RX12 43 "SaidInWinterModel" "layerKind" "[I", Cond.fieldLink RX12 46 "SaidInWinterModel" "layerOath" "[I", Cond.fieldLink RX12 22 "SaidInWinterModel" "fingers" "[I", Cond.fieldLink RX12 7 "SaidInWinterModel" "many" "[I", Cond.methodLink RX12 171 yX12_isCell, Cond.static yX12_isCell, Cond.initialized RX12, Cond.code yX12_isCell cX12_isCell 1 (some .boolean), Cond.constantLong RX12 66 (5), Cond.methodLink RX12 68 yX12_in, Cond.static yX12_in, Cond.code yX12_in cX12_in 6 (some .boolean), Cond.methodLink RX12 176 yX12_wrongLayer, Cond.instanceMethod yX12_wrongLayer, Cond.selects RX12 yX12_wrongLayer yX12_wrongLayer, Cond.code yX12_wrongLayer cX12_wrongLayer 2 (some .int), Cond.constantLong RX12 169 (7), Cond.fieldLink RX12 40 "SaidInWinterModel" "holdsWhat" "[I", Cond.methodLink RX12 140 yX12_freezes, Cond.instanceMethod yX12_freezes, Cond.selects RX12 yX12_freezes yX12_freezes, Cond.code yX12_freezes cX12_freezes 6 (some .boolean)]
def wsX12_freeze_r2 : List Cond := [Cond.fieldLink RX12 13 "SaidInWinterModel" "kinds" "[I", Cond.fieldLink RX12 16 "SaidInWinterModel" "oaths" "[I", Cond.fieldLink RX12 19 "SaidInWinterModel" "froze" "[I", Cond.fieldLink RX12 72 "SaidInWinterModel" "winters" "I", Cond.methodLink RX12 75 yX12_thickOf, Cond.static yX12_thickOf, Cond.code yX12_thickOf cX12_thickOf 3 (some .int)]
def wsX12_freeze : List Cond := .code yX12_freeze cX12_freeze 5 (some .int) :: ((wsX12_freeze_r1 ++ wsX12_freeze_r2) ++ wsX120)
def wsX12_thaw : List Cond := .code yX12_thaw cX12_thaw 4 (some .int) :: ([.fieldLink RX12 62 "SaidInWinterModel" "thrown" "I", .constantLong RX12 179 (99), .methodLink RX12 68 yX12_in, .static yX12_in, .initialized RX12, .code yX12_in cX12_in 6 (some .boolean), .methodLink RX12 144 yX12_warmDay, .instanceMethod yX12_warmDay, .selects RX12 yX12_warmDay yX12_warmDay, .code yX12_warmDay cX12_warmDay 5 (some .int), .fieldLink RX12 7 "SaidInWinterModel" "many" "[I", .fieldLink RX12 22 "SaidInWinterModel" "fingers" "[I", .fieldLink RX12 13 "SaidInWinterModel" "kinds" "[I", .fieldLink RX12 16 "SaidInWinterModel" "oaths" "[I", .methodLink RX12 79 yX12_meltsOf, .static yX12_meltsOf, .code yX12_meltsOf cX12_meltsOf 2 (some .int)] ++ wsX120)
def wsX12_cut : List Cond := .code yX12_cut cX12_cut 3 (some .int) :: ([.fieldLink RX12 62 "SaidInWinterModel" "thrown" "I", .constantLong RX12 179 (99), .methodLink RX12 171 yX12_isCell, .static yX12_isCell, .initialized RX12, .code yX12_isCell cX12_isCell 1 (some .boolean), .constantLong RX12 66 (5), .methodLink RX12 68 yX12_in, .static yX12_in, .code yX12_in cX12_in 6 (some .boolean), .methodLink RX12 147 yX12_cuts, .instanceMethod yX12_cuts, .selects RX12 yX12_cuts yX12_cuts, .code yX12_cuts cX12_cuts 8 (some .int), .fieldLink RX12 7 "SaidInWinterModel" "many" "[I", .fieldLink RX12 22 "SaidInWinterModel" "fingers" "[I"] ++ wsX120)
def wsX12_drift : List Cond := .code yX12_drift cX12_drift 1 (some .int) :: ([.fieldLink RX12 62 "SaidInWinterModel" "thrown" "I", .fieldLink RX12 7 "SaidInWinterModel" "many" "[I", .methodLink RX12 150 yX12_drifts, .instanceMethod yX12_drifts, .selects RX12 yX12_drifts yX12_drifts, .initialized RX12, .code yX12_drifts cX12_drifts 4 none, .fieldLink RX12 13 "SaidInWinterModel" "kinds" "[I", .fieldLink RX12 16 "SaidInWinterModel" "oaths" "[I", .fieldLink RX12 19 "SaidInWinterModel" "froze" "[I", .fieldLink RX12 22 "SaidInWinterModel" "fingers" "[I", .methodLink RX12 83 yX12_swapInts, .instanceMethod yX12_swapInts, .selects RX12 yX12_swapInts yX12_swapInts, .code yX12_swapInts cX12_swapInts 5 none] ++ wsX120)
def wsX12_winter : List Cond := .code yX12_winter cX12_winter 1 (some .int) :: ([.fieldLink RX12 62 "SaidInWinterModel" "thrown" "I", .fieldLink RX12 72 "SaidInWinterModel" "winters" "I"] ++ wsX120)
def wsX12_depthOf : List Cond := .code yX12_depthOf cX12_depthOf 5 (some .int) :: ([.fieldLink RX12 7 "SaidInWinterModel" "many" "[I", .fieldLink RX12 22 "SaidInWinterModel" "fingers" "[I"] ++ wsX120)
def wsX12_isRead : List Cond := .code yX12_isRead cX12_isRead 4 (some .boolean) :: ([.fieldLink RX12 13 "SaidInWinterModel" "kinds" "[I", .fieldLink RX12 16 "SaidInWinterModel" "oaths" "[I", .methodLink RX12 181 yX12_depthOf, .instanceMethod yX12_depthOf, .selects RX12 yX12_depthOf yX12_depthOf, .initialized RX12, .code yX12_depthOf cX12_depthOf 5 (some .int), .fieldLink RX12 7 "SaidInWinterModel" "many" "[I", .fieldLink RX12 22 "SaidInWinterModel" "fingers" "[I", .methodLink RX12 184 yX12_lightOf, .static yX12_lightOf, .code yX12_lightOf cX12_lightOf 2 (some .int)] ++ wsX120)
def wsX12_isLayer : List Cond := .code yX12_isLayer cX12_isLayer 3 (some .boolean) :: ([.fieldLink RX12 7 "SaidInWinterModel" "many" "[I", .methodLink RX12 171 yX12_isCell, .static yX12_isCell, .initialized RX12, .code yX12_isCell cX12_isCell 1 (some .boolean), .constantLong RX12 66 (5), .methodLink RX12 68 yX12_in, .static yX12_in, .code yX12_in cX12_in 6 (some .boolean)] ++ wsX120)
def wsX12_layer_r1 : List Cond := [Cond.fieldLink RX12 62 "SaidInWinterModel" "thrown" "I", Cond.constantLong RX12 66 (5), Cond.fieldLink RX12 13 "SaidInWinterModel" "kinds" "[I", Cond.fieldLink RX12 16 "SaidInWinterModel" "oaths" "[I", Cond.fieldLink RX12 19 "SaidInWinterModel" "froze" "[I", Cond.fieldLink RX12 22 "SaidInWinterModel" "fingers" "[I", Cond.methodLink RX12 187 yX12_isLayer, Cond.instanceMethod yX12_isLayer, Cond.selects RX12 yX12_isLayer yX12_isLayer, Cond.initialized RX12, Cond.code yX12_isLayer cX12_isLayer 3 (some .boolean), Cond.fieldLink RX12 7 "SaidInWinterModel" "many" "[I", Cond.methodLink RX12 171 yX12_isCell, Cond.static yX12_isCell, Cond.code yX12_isCell cX12_isCell 1 (some .boolean), Cond.methodLink RX12 68 yX12_in, Cond.static yX12_in, Cond.code yX12_in cX12_in 6 (some .boolean), Cond.methodLink RX12 181 yX12_depthOf, Cond.instanceMethod yX12_depthOf, Cond.selects RX12 yX12_depthOf yX12_depthOf, Cond.code yX12_depthOf cX12_depthOf 5 (some .int), Cond.methodLink RX12 191 yX12_isRead, Cond.instanceMethod yX12_isRead]
def wsX12_layer_r2 : List Cond := [Cond.selects RX12 yX12_isRead yX12_isRead, Cond.code yX12_isRead cX12_isRead 4 (some .boolean), Cond.methodLink RX12 184 yX12_lightOf, Cond.static yX12_lightOf, Cond.code yX12_lightOf cX12_lightOf 2 (some .int)]
def wsX12_layer : List Cond := .code yX12_layer cX12_layer 5 (some .int) :: ((wsX12_layer_r1 ++ wsX12_layer_r2) ++ wsX120)
def wsX12_cell : List Cond := .code yX12_cell cX12_cell 3 (some .int) :: ([.fieldLink RX12 62 "SaidInWinterModel" "thrown" "I", .fieldLink RX12 7 "SaidInWinterModel" "many" "[I", .methodLink RX12 171 yX12_isCell, .static yX12_isCell, .initialized RX12, .code yX12_isCell cX12_isCell 1 (some .boolean), .constantLong RX12 66 (5), .methodLink RX12 68 yX12_in, .static yX12_in, .code yX12_in cX12_in 6 (some .boolean), .methodLink RX12 105 yX12_iceOf, .instanceMethod yX12_iceOf, .selects RX12 yX12_iceOf yX12_iceOf, .code yX12_iceOf cX12_iceOf 4 (some .int), .fieldLink RX12 22 "SaidInWinterModel" "fingers" "[I"] ++ wsX120)
def wsX12_holds : List Cond := .code yX12_holds cX12_holds 3 (some .int) :: ([.fieldLink RX12 62 "SaidInWinterModel" "thrown" "I", .fieldLink RX12 7 "SaidInWinterModel" "many" "[I", .fieldLink RX12 16 "SaidInWinterModel" "oaths" "[I", .methodLink RX12 171 yX12_isCell, .static yX12_isCell, .initialized RX12, .code yX12_isCell cX12_isCell 1 (some .boolean), .constantLong RX12 66 (5), .methodLink RX12 68 yX12_in, .static yX12_in, .code yX12_in cX12_in 6 (some .boolean), .methodLink RX12 191 yX12_isRead, .instanceMethod yX12_isRead, .selects RX12 yX12_isRead yX12_isRead, .code yX12_isRead cX12_isRead 4 (some .boolean), .fieldLink RX12 13 "SaidInWinterModel" "kinds" "[I", .methodLink RX12 181 yX12_depthOf, .instanceMethod yX12_depthOf, .selects RX12 yX12_depthOf yX12_depthOf, .code yX12_depthOf cX12_depthOf 5 (some .int), .fieldLink RX12 22 "SaidInWinterModel" "fingers" "[I", .methodLink RX12 184 yX12_lightOf, .static yX12_lightOf, .code yX12_lightOf cX12_lightOf 2 (some .int)] ++ wsX120)
def wsX12_latest : List Cond := .code yX12_latest cX12_latest 8 (some .int) :: ([.fieldLink RX12 62 "SaidInWinterModel" "thrown" "I", .constantLong RX12 174 (9), .fieldLink RX12 7 "SaidInWinterModel" "many" "[I", .fieldLink RX12 16 "SaidInWinterModel" "oaths" "[I", .fieldLink RX12 19 "SaidInWinterModel" "froze" "[I", .methodLink RX12 68 yX12_in, .static yX12_in, .initialized RX12, .code yX12_in cX12_in 6 (some .boolean)] ++ wsX120)
def wsX12_seenIn : List Cond := .code yX12_seenIn cX12_seenIn 10 (some .int) :: ([.fieldLink RX12 7 "SaidInWinterModel" "many" "[I", .fieldLink RX12 22 "SaidInWinterModel" "fingers" "[I", .fieldLink RX12 13 "SaidInWinterModel" "kinds" "[I", .fieldLink RX12 16 "SaidInWinterModel" "oaths" "[I", .methodLink RX12 184 yX12_lightOf, .static yX12_lightOf, .initialized RX12, .code yX12_lightOf cX12_lightOf 2 (some .int)] ++ wsX120)
def wsX12_seenBy : List Cond := .code yX12_seenBy cX12_seenBy 5 (some .int) :: ([.methodLink RX12 194 yX12_seenIn, .instanceMethod yX12_seenIn, .selects RX12 yX12_seenIn yX12_seenIn, .initialized RX12, .code yX12_seenIn cX12_seenIn 10 (some .int), .fieldLink RX12 7 "SaidInWinterModel" "many" "[I", .fieldLink RX12 22 "SaidInWinterModel" "fingers" "[I", .fieldLink RX12 13 "SaidInWinterModel" "kinds" "[I", .fieldLink RX12 16 "SaidInWinterModel" "oaths" "[I", .methodLink RX12 184 yX12_lightOf, .static yX12_lightOf, .code yX12_lightOf cX12_lightOf 2 (some .int)] ++ wsX120)
def wsX12_seen : List Cond := .code yX12_seen cX12_seen 3 (some .int) :: ([.fieldLink RX12 62 "SaidInWinterModel" "thrown" "I", .constantLong RX12 197 (63), .constantLong RX12 179 (99), .methodLink RX12 68 yX12_in, .static yX12_in, .initialized RX12, .code yX12_in cX12_in 6 (some .boolean), .methodLink RX12 199 yX12_seenBy, .instanceMethod yX12_seenBy, .selects RX12 yX12_seenBy yX12_seenBy, .code yX12_seenBy cX12_seenBy 5 (some .int), .methodLink RX12 194 yX12_seenIn, .instanceMethod yX12_seenIn, .selects RX12 yX12_seenIn yX12_seenIn, .code yX12_seenIn cX12_seenIn 10 (some .int), .fieldLink RX12 7 "SaidInWinterModel" "many" "[I", .fieldLink RX12 22 "SaidInWinterModel" "fingers" "[I", .fieldLink RX12 13 "SaidInWinterModel" "kinds" "[I", .fieldLink RX12 16 "SaidInWinterModel" "oaths" "[I", .methodLink RX12 184 yX12_lightOf, .static yX12_lightOf, .code yX12_lightOf cX12_lightOf 2 (some .int)] ++ wsX120)
def wsX12_ones : List Cond := .code yX12_ones cX12_ones 3 (some .int) :: ([])
def wsX12_holes_r1 : List Cond := [Cond.fieldLink RX12 62 "SaidInWinterModel" "thrown" "I", Cond.constantLong RX12 202 (1023), Cond.constantLong RX12 179 (99), Cond.methodLink RX12 68 yX12_in, Cond.static yX12_in, Cond.initialized RX12, Cond.code yX12_in cX12_in 6 (some .boolean), Cond.methodLink RX12 199 yX12_seenBy, Cond.instanceMethod yX12_seenBy, Cond.selects RX12 yX12_seenBy yX12_seenBy, Cond.code yX12_seenBy cX12_seenBy 5 (some .int), Cond.methodLink RX12 194 yX12_seenIn, Cond.instanceMethod yX12_seenIn, Cond.selects RX12 yX12_seenIn yX12_seenIn, Cond.code yX12_seenIn cX12_seenIn 10 (some .int), Cond.fieldLink RX12 7 "SaidInWinterModel" "many" "[I", Cond.fieldLink RX12 22 "SaidInWinterModel" "fingers" "[I", Cond.fieldLink RX12 13 "SaidInWinterModel" "kinds" "[I", Cond.fieldLink RX12 16 "SaidInWinterModel" "oaths" "[I", Cond.methodLink RX12 184 yX12_lightOf, Cond.static yX12_lightOf, Cond.code yX12_lightOf cX12_lightOf 2 (some .int), Cond.methodLink RX12 204 yX12_ones, Cond.static yX12_ones]
def wsX12_holes_r2 : List Cond := [Cond.code yX12_ones cX12_ones 3 (some .int)]
def wsX12_holes : List Cond := .code yX12_holes cX12_holes 6 (some .int) :: ((wsX12_holes_r1 ++ wsX12_holes_r2) ++ wsX120)
def wsX12_lastsOf : List Cond := .code yX12_lastsOf cX12_lastsOf 7 (some .int) :: ([.fieldLink RX12 7 "SaidInWinterModel" "many" "[I", .fieldLink RX12 13 "SaidInWinterModel" "kinds" "[I", .fieldLink RX12 16 "SaidInWinterModel" "oaths" "[I", .fieldLink RX12 22 "SaidInWinterModel" "fingers" "[I", .methodLink RX12 79 yX12_meltsOf, .static yX12_meltsOf, .initialized RX12, .code yX12_meltsOf cX12_meltsOf 2 (some .int)] ++ wsX120)
def wsX12_lasts : List Cond := .code yX12_lasts cX12_lasts 3 (some .int) :: ([.fieldLink RX12 62 "SaidInWinterModel" "thrown" "I", .methodLink RX12 187 yX12_isLayer, .instanceMethod yX12_isLayer, .selects RX12 yX12_isLayer yX12_isLayer, .initialized RX12, .code yX12_isLayer cX12_isLayer 3 (some .boolean), .fieldLink RX12 7 "SaidInWinterModel" "many" "[I", .methodLink RX12 171 yX12_isCell, .static yX12_isCell, .code yX12_isCell cX12_isCell 1 (some .boolean), .constantLong RX12 66 (5), .methodLink RX12 68 yX12_in, .static yX12_in, .code yX12_in cX12_in 6 (some .boolean), .methodLink RX12 207 yX12_lastsOf, .instanceMethod yX12_lastsOf, .selects RX12 yX12_lastsOf yX12_lastsOf, .code yX12_lastsOf cX12_lastsOf 7 (some .int), .fieldLink RX12 13 "SaidInWinterModel" "kinds" "[I", .fieldLink RX12 16 "SaidInWinterModel" "oaths" "[I", .fieldLink RX12 22 "SaidInWinterModel" "fingers" "[I", .methodLink RX12 79 yX12_meltsOf, .static yX12_meltsOf, .code yX12_meltsOf cX12_meltsOf 2 (some .int)] ++ wsX120)
def wsX12_frost : List Cond := .code yX12_frost cX12_frost 5 (some .int) :: ([.fieldLink RX12 62 "SaidInWinterModel" "thrown" "I", .constantLong RX12 169 (7), .constantLong RX12 174 (9), .constantLong RX12 179 (99), .methodLink RX12 68 yX12_in, .static yX12_in, .initialized RX12, .code yX12_in cX12_in 6 (some .boolean), .methodLink RX12 75 yX12_thickOf, .static yX12_thickOf, .code yX12_thickOf cX12_thickOf 3 (some .int), .methodLink RX12 79 yX12_meltsOf, .static yX12_meltsOf, .code yX12_meltsOf cX12_meltsOf 2 (some .int)] ++ wsX120)
def wsX12_where : List Cond := .code yX12_where cX12_where 6 (some .int) :: ([.fieldLink RX12 62 "SaidInWinterModel" "thrown" "I", .constantLong RX12 174 (9), .constantLong RX12 179 (99), .fieldLink RX12 7 "SaidInWinterModel" "many" "[I", .fieldLink RX12 16 "SaidInWinterModel" "oaths" "[I", .methodLink RX12 68 yX12_in, .static yX12_in, .initialized RX12, .code yX12_in cX12_in 6 (some .boolean), .methodLink RX12 207 yX12_lastsOf, .instanceMethod yX12_lastsOf, .selects RX12 yX12_lastsOf yX12_lastsOf, .code yX12_lastsOf cX12_lastsOf 7 (some .int), .fieldLink RX12 13 "SaidInWinterModel" "kinds" "[I", .fieldLink RX12 22 "SaidInWinterModel" "fingers" "[I", .methodLink RX12 79 yX12_meltsOf, .static yX12_meltsOf, .code yX12_meltsOf cX12_meltsOf 2 (some .int)] ++ wsX120)
def wsX12_lowestOf : List Cond := .code yX12_lowestOf cX12_lowestOf 5 (some .int) :: ([.fieldLink RX12 7 "SaidInWinterModel" "many" "[I", .fieldLink RX12 19 "SaidInWinterModel" "froze" "[I", .fieldLink RX12 22 "SaidInWinterModel" "fingers" "[I"] ++ wsX120)
def wsX12_isThin : List Cond := .code yX12_isThin cX12_isThin 5 (some .boolean) :: ([.fieldLink RX12 19 "SaidInWinterModel" "froze" "[I", .fieldLink RX12 22 "SaidInWinterModel" "fingers" "[I", .methodLink RX12 210 yX12_lowestOf, .instanceMethod yX12_lowestOf, .selects RX12 yX12_lowestOf yX12_lowestOf, .initialized RX12, .code yX12_lowestOf cX12_lowestOf 5 (some .int), .fieldLink RX12 7 "SaidInWinterModel" "many" "[I"] ++ wsX120)
def wsX12_thin : List Cond := .code yX12_thin cX12_thin 7 (some .int) :: ([.fieldLink RX12 62 "SaidInWinterModel" "thrown" "I", .fieldLink RX12 7 "SaidInWinterModel" "many" "[I", .methodLink RX12 68 yX12_in, .static yX12_in, .initialized RX12, .code yX12_in cX12_in 6 (some .boolean), .methodLink RX12 213 yX12_isThin, .instanceMethod yX12_isThin, .selects RX12 yX12_isThin yX12_isThin, .code yX12_isThin cX12_isThin 5 (some .boolean), .fieldLink RX12 19 "SaidInWinterModel" "froze" "[I", .fieldLink RX12 22 "SaidInWinterModel" "fingers" "[I", .methodLink RX12 210 yX12_lowestOf, .instanceMethod yX12_lowestOf, .selects RX12 yX12_lowestOf yX12_lowestOf, .code yX12_lowestOf cX12_lowestOf 5 (some .int)] ++ wsX120)
def wsX12_layerAt : List Cond := .code yX12_layerAt cX12_layerAt 5 (some .int) :: ([.fieldLink RX12 7 "SaidInWinterModel" "many" "[I", .fieldLink RX12 22 "SaidInWinterModel" "fingers" "[I"] ++ wsX120)
def wsX12_spans : List Cond := .code yX12_spans cX12_spans 4 (some .int) :: ([.fieldLink RX12 62 "SaidInWinterModel" "thrown" "I", .constantLong RX12 216 (98), .fieldLink RX12 19 "SaidInWinterModel" "froze" "[I", .methodLink RX12 171 yX12_isCell, .static yX12_isCell, .initialized RX12, .code yX12_isCell cX12_isCell 1 (some .boolean), .constantLong RX12 66 (5), .methodLink RX12 68 yX12_in, .static yX12_in, .code yX12_in cX12_in 6 (some .boolean), .methodLink RX12 218 yX12_layerAt, .instanceMethod yX12_layerAt, .selects RX12 yX12_layerAt yX12_layerAt, .code yX12_layerAt cX12_layerAt 5 (some .int), .fieldLink RX12 7 "SaidInWinterModel" "many" "[I", .fieldLink RX12 22 "SaidInWinterModel" "fingers" "[I"] ++ wsX120)
def wsX12_disorder : List Cond := .code yX12_disorder cX12_disorder 4 (some .int) :: ([.fieldLink RX12 62 "SaidInWinterModel" "thrown" "I", .fieldLink RX12 7 "SaidInWinterModel" "many" "[I", .fieldLink RX12 19 "SaidInWinterModel" "froze" "[I"] ++ wsX120)
def wsX12_oathBits : List Cond := .code yX12_oathBits cX12_oathBits 4 (some .int) :: ([.fieldLink RX12 7 "SaidInWinterModel" "many" "[I", .fieldLink RX12 16 "SaidInWinterModel" "oaths" "[I"] ++ wsX120)
def wsX12_aheadOf : List Cond := .code yX12_aheadOf cX12_aheadOf 6 (some .int) :: ([.fieldLink RX12 7 "SaidInWinterModel" "many" "[I", .fieldLink RX12 16 "SaidInWinterModel" "oaths" "[I"] ++ wsX120)
def wsX12_order : List Cond := .code yX12_order cX12_order 7 (some .int) :: ([.fieldLink RX12 62 "SaidInWinterModel" "thrown" "I", .methodLink RX12 68 yX12_in, .static yX12_in, .initialized RX12, .code yX12_in cX12_in 6 (some .boolean), .methodLink RX12 221 yX12_oathBits, .instanceMethod yX12_oathBits, .selects RX12 yX12_oathBits yX12_oathBits, .code yX12_oathBits cX12_oathBits 4 (some .int), .fieldLink RX12 7 "SaidInWinterModel" "many" "[I", .fieldLink RX12 16 "SaidInWinterModel" "oaths" "[I", .methodLink RX12 224 yX12_aheadOf, .instanceMethod yX12_aheadOf, .selects RX12 yX12_aheadOf yX12_aheadOf, .code yX12_aheadOf cX12_aheadOf 6 (some .int)] ++ wsX120)
def wsX12_joined : List Cond := .code yX12_joined cX12_joined 6 (some .int) :: ([.fieldLink RX12 62 "SaidInWinterModel" "thrown" "I", .fieldLink RX12 16 "SaidInWinterModel" "oaths" "[I", .methodLink RX12 171 yX12_isCell, .static yX12_isCell, .initialized RX12, .code yX12_isCell cX12_isCell 1 (some .boolean), .constantLong RX12 66 (5), .methodLink RX12 68 yX12_in, .static yX12_in, .code yX12_in cX12_in 6 (some .boolean), .methodLink RX12 218 yX12_layerAt, .instanceMethod yX12_layerAt, .selects RX12 yX12_layerAt yX12_layerAt, .code yX12_layerAt cX12_layerAt 5 (some .int), .fieldLink RX12 7 "SaidInWinterModel" "many" "[I", .fieldLink RX12 22 "SaidInWinterModel" "fingers" "[I"] ++ wsX120)
def wsX12_draw : List Cond := .code yX12_draw cX12_draw 2 (some .int) :: ([.fieldLink RX12 227 "SaidInWinterModel" "seed" "I", .constant RX12 230 (1103515245), .constant RX12 231 (2147483647), .constant RX12 232 (65536)] ++ wsX120)
def wsX12_seeded_r1 : List Cond := [Cond.fieldLink RX12 62 "SaidInWinterModel" "thrown" "I", Cond.constantLong RX12 233 (40), Cond.fieldLink RX12 227 "SaidInWinterModel" "seed" "I", Cond.fieldLink RX12 72 "SaidInWinterModel" "winters" "I", Cond.methodLink RX12 68 yX12_in, Cond.static yX12_in, Cond.initialized RX12, Cond.code yX12_in cX12_in 6 (some .boolean), Cond.methodLink RX12 159 yX12_open, Cond.instanceMethod yX12_open, Cond.selects RX12 yX12_open yX12_open, Cond.code yX12_open cX12_open 1 none, Cond.fieldLink RX12 25 "SaidInWinterModel" "kept" "[I", Cond.methodLink RX12 101 yX12_carryAll, Cond.instanceMethod yX12_carryAll, Cond.selects RX12 yX12_carryAll yX12_carryAll, Cond.code yX12_carryAll cX12_carryAll 4 none, Cond.fieldLink RX12 91 "SaidInWinterModel" "keptIn" "[I", Cond.fieldLink RX12 87 "SaidInWinterModel" "isTaking" "Z", Cond.fieldLink RX12 94 "SaidInWinterModel" "place" "I", Cond.fieldLink RX12 7 "SaidInWinterModel" "many" "[I", Cond.fieldLink RX12 13 "SaidInWinterModel" "kinds" "[I", Cond.fieldLink RX12 16 "SaidInWinterModel" "oaths" "[I", Cond.fieldLink RX12 19 "SaidInWinterModel" "froze" "[I"]
def wsX12_seeded_r2 : List Cond := [Cond.fieldLink RX12 22 "SaidInWinterModel" "fingers" "[I", Cond.methodLink RX12 97 yX12_carry, Cond.instanceMethod yX12_carry, Cond.selects RX12 yX12_carry yX12_carry, Cond.code yX12_carry cX12_carry 2 (some .int), Cond.methodLink RX12 235 yX12_draw, Cond.instanceMethod yX12_draw, Cond.selects RX12 yX12_draw yX12_draw, Cond.code yX12_draw cX12_draw 2 (some .int), Cond.constant RX12 230 (1103515245), Cond.constant RX12 231 (2147483647), Cond.constant RX12 232 (65536), Cond.methodLink RX12 140 yX12_freezes, Cond.instanceMethod yX12_freezes, Cond.selects RX12 yX12_freezes yX12_freezes, Cond.code yX12_freezes cX12_freezes 6 (some .boolean), Cond.methodLink RX12 75 yX12_thickOf, Cond.static yX12_thickOf, Cond.code yX12_thickOf cX12_thickOf 3 (some .int), Cond.methodLink RX12 144 yX12_warmDay, Cond.instanceMethod yX12_warmDay, Cond.selects RX12 yX12_warmDay yX12_warmDay, Cond.code yX12_warmDay cX12_warmDay 5 (some .int), Cond.methodLink RX12 79 yX12_meltsOf]
def wsX12_seeded_r3 : List Cond := [Cond.static yX12_meltsOf, Cond.code yX12_meltsOf cX12_meltsOf 2 (some .int), Cond.methodLink RX12 111 yX12_iceOfAll, Cond.instanceMethod yX12_iceOfAll, Cond.selects RX12 yX12_iceOfAll yX12_iceOfAll, Cond.code yX12_iceOfAll cX12_iceOfAll 3 (some .int), Cond.methodLink RX12 105 yX12_iceOf, Cond.instanceMethod yX12_iceOf, Cond.selects RX12 yX12_iceOf yX12_iceOf, Cond.code yX12_iceOf cX12_iceOf 4 (some .int), Cond.methodLink RX12 166 yX12_close, Cond.instanceMethod yX12_close, Cond.selects RX12 yX12_close yX12_close, Cond.code yX12_close cX12_close 1 none]
def wsX12_seeded : List Cond := .code yX12_seeded cX12_seeded 8 (some .int) :: ((wsX12_seeded_r1 ++ (wsX12_seeded_r2 ++ wsX12_seeded_r3)) ++ wsX120)
def wsX12_skippedIn : List Cond := .code yX12_skippedIn cX12_skippedIn 2 (some .long) :: ([.fieldLink RX12 49 "SaidInWinterModel" "rowSort" "[I", .constantLong RX12 238 (-128), .constantLong RX12 240 (-32768), .constantLong RX12 242 (-2147483648)] ++ wsX120)
def wsX12_judge_r1 : List Cond := [Cond.fieldLink RX12 62 "SaidInWinterModel" "thrown" "I", Cond.fieldLink RX12 52 "SaidInWinterModel" "rowMany" "[I", Cond.fieldLink RX12 55 "SaidInWinterModel" "rows" "[J", Cond.methodLink RX12 244 yX12_wrongRow, Cond.instanceMethod yX12_wrongRow, Cond.selects RX12 yX12_wrongRow yX12_wrongRow, Cond.initialized RX12, Cond.code yX12_wrongRow cX12_wrongRow 2 (some .int), Cond.constantLong RX12 169 (7), Cond.fieldLink RX12 40 "SaidInWinterModel" "holdsWhat" "[I", Cond.methodLink RX12 68 yX12_in, Cond.static yX12_in, Cond.code yX12_in cX12_in 6 (some .boolean), Cond.methodLink RX12 247 yX12_skippedIn, Cond.instanceMethod yX12_skippedIn, Cond.selects RX12 yX12_skippedIn yX12_skippedIn, Cond.code yX12_skippedIn cX12_skippedIn 2 (some .long), Cond.fieldLink RX12 49 "SaidInWinterModel" "rowSort" "[I", Cond.constantLong RX12 238 (-128), Cond.constantLong RX12 240 (-32768), Cond.constantLong RX12 242 (-2147483648), Cond.methodLink RX12 105 yX12_iceOf, Cond.instanceMethod yX12_iceOf, Cond.selects RX12 yX12_iceOf yX12_iceOf]
def wsX12_judge_r2 : List Cond := [Cond.code yX12_iceOf cX12_iceOf 4 (some .int), Cond.fieldLink RX12 7 "SaidInWinterModel" "many" "[I", Cond.fieldLink RX12 22 "SaidInWinterModel" "fingers" "[I"]
def wsX12_judge : List Cond := .code yX12_judge cX12_judge 6 (some .int) :: ((wsX12_judge_r1 ++ wsX12_judge_r2) ++ wsX120)
def wsX12_count_r1 : List Cond := [Cond.fieldLink RX12 62 "SaidInWinterModel" "thrown" "I", Cond.fieldLink RX12 7 "SaidInWinterModel" "many" "[I", Cond.fieldLink RX12 72 "SaidInWinterModel" "winters" "I", Cond.methodLink RX12 191 yX12_isRead, Cond.instanceMethod yX12_isRead, Cond.selects RX12 yX12_isRead yX12_isRead, Cond.initialized RX12, Cond.code yX12_isRead cX12_isRead 4 (some .boolean), Cond.fieldLink RX12 13 "SaidInWinterModel" "kinds" "[I", Cond.fieldLink RX12 16 "SaidInWinterModel" "oaths" "[I", Cond.methodLink RX12 181 yX12_depthOf, Cond.instanceMethod yX12_depthOf, Cond.selects RX12 yX12_depthOf yX12_depthOf, Cond.code yX12_depthOf cX12_depthOf 5 (some .int), Cond.fieldLink RX12 22 "SaidInWinterModel" "fingers" "[I", Cond.methodLink RX12 184 yX12_lightOf, Cond.static yX12_lightOf, Cond.code yX12_lightOf cX12_lightOf 2 (some .int), Cond.methodLink RX12 111 yX12_iceOfAll, Cond.instanceMethod yX12_iceOfAll, Cond.selects RX12 yX12_iceOfAll yX12_iceOfAll, Cond.code yX12_iceOfAll cX12_iceOfAll 3 (some .int), Cond.methodLink RX12 105 yX12_iceOf, Cond.instanceMethod yX12_iceOf]
def wsX12_count_r2 : List Cond := [Cond.selects RX12 yX12_iceOf yX12_iceOf, Cond.code yX12_iceOf cX12_iceOf 4 (some .int), Cond.methodLink RX12 221 yX12_oathBits, Cond.instanceMethod yX12_oathBits, Cond.selects RX12 yX12_oathBits yX12_oathBits, Cond.code yX12_oathBits cX12_oathBits 4 (some .int)]
def wsX12_count : List Cond := .code yX12_count cX12_count 6 (some .int) :: ((wsX12_count_r1 ++ wsX12_count_r2) ++ wsX120)
def wsX12_keep : List Cond := .code yX12_keep cX12_keep 5 (some .int) :: ([.fieldLink RX12 62 "SaidInWinterModel" "thrown" "I", .constantLong RX12 169 (7), .constantLong RX12 174 (9), .fieldLink RX12 40 "SaidInWinterModel" "holdsWhat" "[I", .fieldLink RX12 43 "SaidInWinterModel" "layerKind" "[I", .fieldLink RX12 46 "SaidInWinterModel" "layerOath" "[I", .methodLink RX12 68 yX12_in, .static yX12_in, .initialized RX12, .code yX12_in cX12_in 6 (some .boolean)] ++ wsX120)
def wsX12_narrowed : List Cond := .code yX12_narrowed cX12_narrowed 2 (some .long) :: ([])
def wsX12_row : List Cond := .code yX12_row cX12_row 5 (some .int) :: ([.fieldLink RX12 62 "SaidInWinterModel" "thrown" "I", .constantLong RX12 169 (7), .constantLong RX12 251 (2), .fieldLink RX12 40 "SaidInWinterModel" "holdsWhat" "[I", .fieldLink RX12 49 "SaidInWinterModel" "rowSort" "[I", .fieldLink RX12 52 "SaidInWinterModel" "rowMany" "[I", .fieldLink RX12 55 "SaidInWinterModel" "rows" "[J", .methodLink RX12 68 yX12_in, .static yX12_in, .initialized RX12, .code yX12_in cX12_in 6 (some .boolean)] ++ wsX120)
def wsX12_put : List Cond := .code yX12_put cX12_put 5 (some .int) :: ([.fieldLink RX12 62 "SaidInWinterModel" "thrown" "I", .fieldLink RX12 52 "SaidInWinterModel" "rowMany" "[I", .fieldLink RX12 55 "SaidInWinterModel" "rows" "[J", .fieldLink RX12 49 "SaidInWinterModel" "rowSort" "[I", .methodLink RX12 244 yX12_wrongRow, .instanceMethod yX12_wrongRow, .selects RX12 yX12_wrongRow yX12_wrongRow, .initialized RX12, .code yX12_wrongRow cX12_wrongRow 2 (some .int), .constantLong RX12 169 (7), .fieldLink RX12 40 "SaidInWinterModel" "holdsWhat" "[I", .methodLink RX12 68 yX12_in, .static yX12_in, .code yX12_in cX12_in 6 (some .boolean), .methodLink RX12 253 yX12_narrowed, .static yX12_narrowed, .code yX12_narrowed cX12_narrowed 2 (some .long)] ++ wsX120)
def wsX12_element : List Cond := .code yX12_element cX12_element 4 (some .long) :: ([.fieldLink RX12 52 "SaidInWinterModel" "rowMany" "[I", .fieldLink RX12 62 "SaidInWinterModel" "thrown" "I", .fieldLink RX12 55 "SaidInWinterModel" "rows" "[J", .methodLink RX12 244 yX12_wrongRow, .instanceMethod yX12_wrongRow, .selects RX12 yX12_wrongRow yX12_wrongRow, .initialized RX12, .code yX12_wrongRow cX12_wrongRow 2 (some .int), .constantLong RX12 169 (7), .fieldLink RX12 40 "SaidInWinterModel" "holdsWhat" "[I", .methodLink RX12 68 yX12_in, .static yX12_in, .code yX12_in cX12_in 6 (some .boolean)] ++ wsX120)
def wsX12_copy : List Cond := .code yX12_copy cX12_copy 7 (some .int) :: ([.fieldLink RX12 62 "SaidInWinterModel" "thrown" "I", .constantLong RX12 169 (7), .fieldLink RX12 40 "SaidInWinterModel" "holdsWhat" "[I", .fieldLink RX12 49 "SaidInWinterModel" "rowSort" "[I", .fieldLink RX12 52 "SaidInWinterModel" "rowMany" "[I", .fieldLink RX12 59 "SaidInWinterModel" "between" "[J", .fieldLink RX12 55 "SaidInWinterModel" "rows" "[J", .methodLink RX12 68 yX12_in, .static yX12_in, .initialized RX12, .code yX12_in cX12_in 6 (some .boolean)] ++ wsX120)
def wsX12_toll : List Cond := .code yX12_toll cX12_toll 2 (some .int) :: ([.fieldLink RX12 62 "SaidInWinterModel" "thrown" "I", .fieldLink RX12 43 "SaidInWinterModel" "layerKind" "[I", .fieldLink RX12 46 "SaidInWinterModel" "layerOath" "[I", .methodLink RX12 176 yX12_wrongLayer, .instanceMethod yX12_wrongLayer, .selects RX12 yX12_wrongLayer yX12_wrongLayer, .initialized RX12, .code yX12_wrongLayer cX12_wrongLayer 2 (some .int), .constantLong RX12 169 (7), .fieldLink RX12 40 "SaidInWinterModel" "holdsWhat" "[I", .methodLink RX12 68 yX12_in, .static yX12_in, .code yX12_in cX12_in 6 (some .boolean), .methodLink RX12 257 yX12_tollOf, .static yX12_tollOf, .code yX12_tollOf cX12_tollOf 2 (some .int)] ++ wsX120)
def wsX12_toss : List Cond := .code yX12_toss cX12_toss 4 (some .int) :: ([.fieldLink RX12 62 "SaidInWinterModel" "thrown" "I", .fieldLink RX12 43 "SaidInWinterModel" "layerKind" "[I", .fieldLink RX12 46 "SaidInWinterModel" "layerOath" "[I", .methodLink RX12 176 yX12_wrongLayer, .instanceMethod yX12_wrongLayer, .selects RX12 yX12_wrongLayer yX12_wrongLayer, .initialized RX12, .code yX12_wrongLayer cX12_wrongLayer 2 (some .int), .constantLong RX12 169 (7), .fieldLink RX12 40 "SaidInWinterModel" "holdsWhat" "[I", .methodLink RX12 68 yX12_in, .static yX12_in, .code yX12_in cX12_in 6 (some .boolean)] ++ wsX120)
def wsJ9_max_7cf53 : List Cond := .code yJ9_max_7cf53 cJ9_max_7cf53 2 (some .int) :: ([])
def wsJ9_min_7cf53 : List Cond := .code yJ9_min_7cf53 cJ9_min_7cf53 2 (some .int) :: ([])
def wsL_element_r1 : List Cond := [Cond.classLink RL 13 "java/lang/IllegalArgumentException", Cond.classLink RL 15 "java/lang/IllegalStateException", Cond.methodLink RL 7 yX11_element, Cond.instanceMethod yX11_element, Cond.selects RX11 yX11_element yX11_element, Cond.initialized RX11, Cond.code yX11_element cX11_element 4 (some .long), Cond.classLink RX11 251 "java/lang/IllegalArgumentException", Cond.initialized "java/lang/IllegalArgumentException", Cond.classLink RX11 258 "java/lang/IllegalStateException", Cond.initialized "java/lang/IllegalStateException", Cond.methodLink RX11 66 yX11_shelfAt, Cond.instanceMethod yX11_shelfAt, Cond.selects RX11 yX11_shelfAt yX11_shelfAt, Cond.code yX11_shelfAt cX11_shelfAt 2 (some (.object "SaidInWinter$Shelf")), Cond.fieldLink RX11 54 "SaidInWinter" "shelves" "[LSaidInWinter$Shelf;", Cond.methodLink RX11 89 yX11_within, Cond.static yX11_within, Cond.code yX11_within cX11_within 3 (some .boolean), Cond.methodLink RX11 70 yX9_lacks, Cond.instanceMethod yX9_lacks, Cond.selects RX9 yX9_lacks yX9_lacks, Cond.initialized RX9, Cond.code yX9_lacks cX9_lacks 2 (some .int)]
def wsL_element_r2 : List Cond := [Cond.fieldLink RX9 15 "SaidInWinter$Shelf" "held" "I", Cond.methodLink RX11 242 yX9_hasPlace, Cond.instanceMethod yX9_hasPlace, Cond.selects RX9 yX9_hasPlace yX9_hasPlace, Cond.code yX9_hasPlace cX9_hasPlace 2 (some .boolean), Cond.fieldLink RX9 28 "SaidInWinter$Shelf" "size" "I", Cond.fieldLink RX9 9 "SaidInWinter$Shelf" "elements" "[I"]
def wsL_element : List Cond := .codeWith yL_element cL_element 5 (some .int) [(0, 9, 12, 13), (0, 9, 16, 15)] :: ((wsL_element_r1 ++ wsL_element_r2) ++ wsX90 ++ wsX110 ++ (vx_atS RX11 255 "java/lang/IllegalArgumentException" ["java/lang/RuntimeException", "java/lang/Exception"]).filter goodWord ++ (vx_atS RX11 262 "java/lang/IllegalStateException" ["java/lang/RuntimeException", "java/lang/Exception"]).filter goodWord)
def wsL_law0_r1 : List Cond := [Cond.classLink RL 8 RX11, Cond.instantiable RX11 9, Cond.initialized RX11, Cond.classLink RL 18 RX12, Cond.instantiable RX12 29, Cond.initialized RX12, Cond.arrayClass .long, Cond.methodLink RL 17 yX11_init, Cond.instanceMethod yX11_init, Cond.code yX11_init cX11_init 2 none, Cond.methodLink RX11 1 objectInit, Cond.instanceMethod objectInit, Cond.code objectInit ⟨#[0xb1]⟩ 1 none, Cond.classLink RX11 7 RX7, Cond.instantiable RX7 0, Cond.initialized RX7, Cond.classLink RX11 10 RX3, Cond.instantiable RX3 0, Cond.initialized RX3, Cond.classLink RX11 13 RX5, Cond.instantiable RX5 0, Cond.initialized RX5, Cond.classLink RX11 16 RX10, Cond.instantiable RX10 0]
def wsL_law0_r2 : List Cond := [Cond.initialized RX10, Cond.classLink RX11 19 RX1, Cond.instantiable RX1 0, Cond.initialized RX1, Cond.classLink RX11 22 RX8, Cond.instantiable RX8 0, Cond.initialized RX8, Cond.classLink RX11 25 RX0, Cond.instantiable RX0 0, Cond.initialized RX0, Cond.classLink RX11 28 RX4, Cond.instantiable RX4 0, Cond.initialized RX4, Cond.fieldLink RX11 31 "SaidInWinter" "kinds" "[LSaidInWinter$Layer;", Cond.classLink RX11 37 RX6, Cond.instantiable RX6 3, Cond.initialized RX6, Cond.fieldLink RX11 42 "SaidInWinter" "now" "LSaidInWinter$Lake;", Cond.fieldLink RX11 46 "SaidInWinter" "imaged" "LSaidInWinter$Lake;", Cond.fieldLink RX11 49 "SaidInWinter" "mind" "LSaidInWinter$Lake;", Cond.classLink RX11 52 RX9, Cond.fieldLink RX11 54 "SaidInWinter" "shelves" "[LSaidInWinter$Shelf;", Cond.instantiable RX9 6, Cond.initialized RX9]
def wsL_law0_r3 : List Cond := [Cond.arrayClass .int, Cond.fieldLink RX11 59 "SaidInWinter" "seenIn" "[I", Cond.fieldLink RX11 63 "SaidInWinter" "ahead" "[I", Cond.instanceMethod yX7_init, Cond.code yX7_init cX7_init 1 none, Cond.methodLink RX7 1 objectInit, Cond.instanceMethod yX3_init, Cond.code yX3_init cX3_init 1 none, Cond.instanceMethod yX5_init, Cond.code yX5_init cX5_init 1 none, Cond.instanceMethod yX10_init, Cond.code yX10_init cX10_init 1 none, Cond.instanceMethod yX1_init, Cond.code yX1_init cX1_init 1 none, Cond.instanceMethod yX8_init, Cond.code yX8_init cX8_init 1 none, Cond.instanceMethod yX0_init, Cond.code yX0_init cX0_init 1 none, Cond.instanceMethod yX4_init, Cond.code yX4_init cX4_init 1 none, Cond.methodLink RX11 39 yX6_init, Cond.instanceMethod yX6_init, Cond.code yX6_init cX6_init 3 none, Cond.methodLink RX6 3 objectInit]
def wsL_law0_r4 : List Cond := [Cond.classLink RX6 9 RX2, Cond.fieldLink RX6 11 "SaidInWinter$Lake" "cells" "[LSaidInWinter$Cell;", Cond.fieldLink RX6 17 "SaidInWinter$Lake" "kinds" "[LSaidInWinter$Layer;", Cond.instantiable RX2 7, Cond.initialized RX2, Cond.instanceMethod yX2_init, Cond.code yX2_init cX2_init 1 none, Cond.methodLink RX2 3 objectInit, Cond.fieldLink RX2 9 "SaidInWinter$Cell" "kind" "[I", Cond.fieldLink RX2 15 "SaidInWinter$Cell" "oath" "[I", Cond.fieldLink RX2 18 "SaidInWinter$Cell" "frozenIn" "[I", Cond.fieldLink RX2 21 "SaidInWinter$Cell" "thick" "[I", Cond.fieldLink RX2 24 "SaidInWinter$Cell" "melts" "[I", Cond.fieldLink RX2 27 "SaidInWinter$Cell" "light" "[I", Cond.instanceMethod yX9_init, Cond.code yX9_init cX9_init 1 none, Cond.methodLink RX9 3 objectInit, Cond.fieldLink RX9 9 "SaidInWinter$Shelf" "elements" "[I", Cond.methodLink RL 20 yX12_init, Cond.instanceMethod yX12_init, Cond.code yX12_init cX12_init 1 none, Cond.methodLink RX12 1 objectInit, Cond.fieldLink RX12 7 "SaidInWinterModel" "many" "[I", Cond.fieldLink RX12 13 "SaidInWinterModel" "kinds" "[I"]
def wsL_law0_r5 : List Cond := [Cond.fieldLink RX12 16 "SaidInWinterModel" "oaths" "[I", Cond.fieldLink RX12 19 "SaidInWinterModel" "froze" "[I", Cond.fieldLink RX12 22 "SaidInWinterModel" "fingers" "[I", Cond.fieldLink RX12 25 "SaidInWinterModel" "kept" "[I", Cond.fieldLink RX12 28 "SaidInWinterModel" "imaged" "[I", Cond.fieldLink RX12 31 "SaidInWinterModel" "placeOf" "[I", Cond.fieldLink RX12 34 "SaidInWinterModel" "letterOf" "[I", Cond.fieldLink RX12 37 "SaidInWinterModel" "told" "[I", Cond.fieldLink RX12 40 "SaidInWinterModel" "holdsWhat" "[I", Cond.fieldLink RX12 43 "SaidInWinterModel" "layerKind" "[I", Cond.fieldLink RX12 46 "SaidInWinterModel" "layerOath" "[I", Cond.fieldLink RX12 49 "SaidInWinterModel" "rowSort" "[I", Cond.fieldLink RX12 52 "SaidInWinterModel" "rowMany" "[I", Cond.fieldLink RX12 55 "SaidInWinterModel" "rows" "[J", Cond.fieldLink RX12 59 "SaidInWinterModel" "between" "[J", Cond.fieldLink RX12 62 "SaidInWinterModel" "thrown" "I", Cond.methodLink RL 21 yX11_lake, Cond.instanceMethod yX11_lake, Cond.selects RX11 yX11_lake yX11_lake, Cond.code yX11_lake cX11_lake 5 (some .int), Cond.methodLink RX11 66 yX11_shelfAt, Cond.instanceMethod yX11_shelfAt, Cond.selects RX11 yX11_shelfAt yX11_shelfAt, Cond.code yX11_shelfAt cX11_shelfAt 2 (some (.object "SaidInWinter$Shelf"))]
def wsL_law0_r6 : List Cond := [Cond.methodLink RX11 89 yX11_within, Cond.static yX11_within, Cond.code yX11_within cX11_within 3 (some .boolean), Cond.methodLink RX11 70 yX9_lacks, Cond.instanceMethod yX9_lacks, Cond.selects RX9 yX9_lacks yX9_lacks, Cond.code yX9_lacks cX9_lacks 2 (some .int), Cond.fieldLink RX9 15 "SaidInWinter$Shelf" "held" "I", Cond.methodLink RX11 78 yX11_firstBadByte, Cond.static yX11_firstBadByte, Cond.code yX11_firstBadByte cX11_firstBadByte 5 (some .int), Cond.methodLink RX11 281 yX9_valueAt, Cond.instanceMethod yX9_valueAt, Cond.selects RX9 yX9_valueAt yX9_valueAt, Cond.code yX9_valueAt cX9_valueAt 2 (some .int), Cond.methodLink RX9 37 yX9_hasPlace, Cond.instanceMethod yX9_hasPlace, Cond.selects RX9 yX9_hasPlace yX9_hasPlace, Cond.code yX9_hasPlace cX9_hasPlace 2 (some .boolean), Cond.fieldLink RX9 28 "SaidInWinter$Shelf" "size" "I", Cond.methodLink RX11 284 yX11_statementLength, Cond.static yX11_statementLength, Cond.code yX11_statementLength cX11_statementLength 1 (some .int), Cond.methodLink RX11 287 yX9_digitAt]
def wsL_law0_r7 : List Cond := [Cond.instanceMethod yX9_digitAt, Cond.selects RX9 yX9_digitAt yX9_digitAt, Cond.code yX9_digitAt cX9_digitAt 3 (some .int), Cond.methodLink RX9 41 yX9_valueAt, Cond.methodLink RX11 82 yX11_readStatements, Cond.instanceMethod yX11_readStatements, Cond.selects RX11 yX11_readStatements yX11_readStatements, Cond.code yX11_readStatements cX11_readStatements 5 (some .int), Cond.methodLink RX11 297 Lib.Math.max.name, Cond.static Lib.Math.max.name, Cond.initialized "java/lang/Math", Cond.code Lib.Math.max.name Lib.Math.max.code 2 (some .int), Cond.methodLink RX11 199 yX6_takeAll, Cond.instanceMethod yX6_takeAll, Cond.selects RX6 yX6_takeAll yX6_takeAll, Cond.code yX6_takeAll cX6_takeAll 3 none, Cond.fieldLink RX6 26 "SaidInWinter$Lake" "winter" "I", Cond.methodLink RX6 30 yX2_takeLayers, Cond.instanceMethod yX2_takeLayers, Cond.selects RX2 yX2_takeLayers yX2_takeLayers, Cond.code yX2_takeLayers cX2_takeLayers 3 none, Cond.fieldLink RX2 30 "SaidInWinter$Cell" "layers" "I", Cond.methodLink RX11 293 yX11_doStatement, Cond.instanceMethod yX11_doStatement]
def wsL_law0_r8 : List Cond := [Cond.selects RX11 yX11_doStatement yX11_doStatement, Cond.code yX11_doStatement cX11_doStatement 4 (some .int), Cond.methodLink RX11 99 yX6_freezeIn, Cond.instanceMethod yX6_freezeIn, Cond.selects RX6 yX6_freezeIn yX6_freezeIn, Cond.code yX6_freezeIn cX6_freezeIn 6 (some .int), Cond.methodLink RX6 34 yX6_cellAt, Cond.instanceMethod yX6_cellAt, Cond.selects RX6 yX6_cellAt yX6_cellAt, Cond.code yX6_cellAt cX6_cellAt 2 (some (.object "SaidInWinter$Cell")), Cond.static yX11_isKindAndOath, Cond.code yX11_isKindAndOath cX11_isKindAndOath 2 (some .boolean), Cond.static yX11_kindOf, Cond.code yX11_kindOf cX11_kindOf 2 (some (.object "SaidInWinter$Layer")), Cond.methodLink RX6 46 yX2_freezeOn, Cond.instanceMethod yX2_freezeOn, Cond.selects RX2 yX2_freezeOn yX2_freezeOn, Cond.code yX2_freezeOn cX2_freezeOn 7 (some .int), Cond.methodLink RX2 57 ⟨"SaidInWinter$Layer", "fingersIn", "(II)I"⟩, Cond.sameMethod "SaidInWinter$Layer" "SaidInWinter$Layer" "fingersIn" "(II)I", Cond.instanceMethod ⟨"SaidInWinter$Layer", "fingersIn", "(II)I"⟩, Cond.selects RX0 ⟨"SaidInWinter$Layer", "fingersIn", "(II)I"⟩ yX0_fingersIn, Cond.instanceMethod yX0_fingersIn, Cond.code yX0_fingersIn cX0_fingersIn 3 (some .int)]
def wsL_law0_r9 : List Cond := [Cond.methodLink RX0 7 yX3_fingersIn, Cond.sameMethod "SaidInWinter$Clear" "SaidInWinter$Clear" "fingersIn" "(II)I", Cond.superclass RX0 RX3, Cond.instanceMethod yX3_fingersIn, Cond.code yX3_fingersIn cX3_fingersIn 3 (some .int), Cond.methodLink RX3 7 yX7_fingersIn, Cond.superclass RX3 RX7, Cond.instanceMethod yX7_fingersIn, Cond.code yX7_fingersIn cX7_fingersIn 3 (some .int), Cond.selects RX1 ⟨"SaidInWinter$Layer", "fingersIn", "(II)I"⟩ yX3_fingersIn, Cond.selects RX3 ⟨"SaidInWinter$Layer", "fingersIn", "(II)I"⟩ yX3_fingersIn, Cond.selects RX4 ⟨"SaidInWinter$Layer", "fingersIn", "(II)I"⟩ yX10_fingersIn, Cond.instanceMethod yX10_fingersIn, Cond.code yX10_fingersIn cX10_fingersIn 3 (some .int), Cond.methodLink RX10 7 yX7_fingersIn, Cond.superclass RX10 RX7, Cond.selects RX5 ⟨"SaidInWinter$Layer", "fingersIn", "(II)I"⟩ yX5_fingersIn, Cond.instanceMethod yX5_fingersIn, Cond.code yX5_fingersIn cX5_fingersIn 3 (some .int), Cond.methodLink RX5 11 Lib.Math.max.name, Cond.methodLink RX5 7 yX7_fingersIn, Cond.superclass RX5 RX7, Cond.methodLink RX2 57 yX7_fingersIn, Cond.selects RX7 yX7_fingersIn yX7_fingersIn]
def wsL_law0_r10 : List Cond := [Cond.selects RX8 ⟨"SaidInWinter$Layer", "fingersIn", "(II)I"⟩ yX8_fingersIn, Cond.instanceMethod yX8_fingersIn, Cond.code yX8_fingersIn cX8_fingersIn 3 (some .int), Cond.methodLink RX8 7 yX10_fingersIn, Cond.sameMethod "SaidInWinter$Snow" "SaidInWinter$Snow" "fingersIn" "(II)I", Cond.superclass RX8 RX10, Cond.selects RX10 ⟨"SaidInWinter$Layer", "fingersIn", "(II)I"⟩ yX10_fingersIn, Cond.methodLink RX2 63 ⟨"SaidInWinter$Layer", "melts", "(I)I"⟩, Cond.sameMethod "SaidInWinter$Layer" "SaidInWinter$Layer" "melts" "(I)I", Cond.instanceMethod ⟨"SaidInWinter$Layer", "melts", "(I)I"⟩, Cond.selects RX0 ⟨"SaidInWinter$Layer", "melts", "(I)I"⟩ yX3_melts, Cond.instanceMethod yX3_melts, Cond.code yX3_melts cX3_melts 2 (some .int), Cond.methodLink RX3 11 yX7_melts, Cond.instanceMethod yX7_melts, Cond.code yX7_melts cX7_melts 2 (some .int), Cond.selects RX1 ⟨"SaidInWinter$Layer", "melts", "(I)I"⟩ yX1_melts, Cond.instanceMethod yX1_melts, Cond.code yX1_melts cX1_melts 2 (some .int), Cond.methodLink RX1 7 yX3_melts, Cond.sameMethod "SaidInWinter$Clear" "SaidInWinter$Clear" "melts" "(I)I", Cond.superclass RX1 RX3, Cond.selects RX3 ⟨"SaidInWinter$Layer", "melts", "(I)I"⟩ yX3_melts, Cond.selects RX4 ⟨"SaidInWinter$Layer", "melts", "(I)I"⟩ yX4_melts]
def wsL_law0_r11 : List Cond := [Cond.instanceMethod yX4_melts, Cond.code yX4_melts cX4_melts 2 (some .int), Cond.methodLink RX4 7 yX10_melts, Cond.sameMethod "SaidInWinter$Snow" "SaidInWinter$Snow" "melts" "(I)I", Cond.superclass RX4 RX10, Cond.instanceMethod yX10_melts, Cond.code yX10_melts cX10_melts 2 (some .int), Cond.methodLink RX10 11 yX7_melts, Cond.selects RX5 ⟨"SaidInWinter$Layer", "melts", "(I)I"⟩ yX5_melts, Cond.instanceMethod yX5_melts, Cond.code yX5_melts cX5_melts 2 (some .int), Cond.methodLink RX5 16 yX7_melts, Cond.methodLink RX2 63 yX7_melts, Cond.selects RX7 yX7_melts yX7_melts, Cond.selects RX8 ⟨"SaidInWinter$Layer", "melts", "(I)I"⟩ yX8_melts, Cond.instanceMethod yX8_melts, Cond.code yX8_melts cX8_melts 2 (some .int), Cond.methodLink RX8 11 yX10_melts, Cond.selects RX10 ⟨"SaidInWinter$Layer", "melts", "(I)I"⟩ yX10_melts, Cond.methodLink RX2 65 ⟨"SaidInWinter$Layer", "light", "(I)I"⟩, Cond.sameMethod "SaidInWinter$Layer" "SaidInWinter$Layer" "light" "(I)I", Cond.instanceMethod ⟨"SaidInWinter$Layer", "light", "(I)I"⟩, Cond.selects RX0 ⟨"SaidInWinter$Layer", "light", "(I)I"⟩ yX0_light, Cond.instanceMethod yX0_light]
def wsL_law0_r12 : List Cond := [Cond.code yX0_light cX0_light 2 (some .int), Cond.methodLink RX0 11 yX3_light, Cond.sameMethod "SaidInWinter$Clear" "SaidInWinter$Clear" "light" "(I)I", Cond.instanceMethod yX3_light, Cond.code yX3_light cX3_light 2 (some .int), Cond.methodLink RX3 15 yX7_light, Cond.instanceMethod yX7_light, Cond.code yX7_light cX7_light 2 (some .int), Cond.selects RX1 ⟨"SaidInWinter$Layer", "light", "(I)I"⟩ yX1_light, Cond.instanceMethod yX1_light, Cond.code yX1_light cX1_light 2 (some .int), Cond.methodLink RX1 11 yX3_light, Cond.selects RX3 ⟨"SaidInWinter$Layer", "light", "(I)I"⟩ yX3_light, Cond.selects RX4 ⟨"SaidInWinter$Layer", "light", "(I)I"⟩ yX4_light, Cond.instanceMethod yX4_light, Cond.code yX4_light cX4_light 2 (some .int), Cond.selects RX5 ⟨"SaidInWinter$Layer", "light", "(I)I"⟩ yX7_light, Cond.methodLink RX2 65 yX7_light, Cond.selects RX7 yX7_light yX7_light, Cond.selects RX8 ⟨"SaidInWinter$Layer", "light", "(I)I"⟩ yX10_light, Cond.instanceMethod yX10_light, Cond.code yX10_light cX10_light 2 (some .int), Cond.methodLink RX10 15 yX7_light, Cond.selects RX10 ⟨"SaidInWinter$Layer", "light", "(I)I"⟩ yX10_light]
def wsL_law0_r13 : List Cond := [Cond.methodLink RX11 103 yX6_thawFor, Cond.instanceMethod yX6_thawFor, Cond.selects RX6 yX6_thawFor yX6_thawFor, Cond.code yX6_thawFor cX6_thawFor 8 (some .int), Cond.methodLink RX6 53 yX2_warmDay, Cond.instanceMethod yX2_warmDay, Cond.selects RX2 yX2_warmDay yX2_warmDay, Cond.code yX2_warmDay cX2_warmDay 2 (some .int), Cond.methodLink RX2 70 Lib.Math.min.name, Cond.static Lib.Math.min.name, Cond.code Lib.Math.min.name Lib.Math.min.code 2 (some .int), Cond.methodLink RX2 34 yX2_has, Cond.instanceMethod yX2_has, Cond.selects RX2 yX2_has yX2_has, Cond.code yX2_has cX2_has 2 (some .boolean), Cond.methodLink RX2 67 yX2_meltsAt, Cond.instanceMethod yX2_meltsAt, Cond.selects RX2 yX2_meltsAt yX2_meltsAt, Cond.code yX2_meltsAt cX2_meltsAt 2 (some .int), Cond.methodLink RX2 38 yX2_thickAt, Cond.instanceMethod yX2_thickAt, Cond.selects RX2 yX2_thickAt yX2_thickAt, Cond.code yX2_thickAt cX2_thickAt 2 (some .int), Cond.methodLink RX2 75 yX2_cutOff]
def wsL_law0_r14 : List Cond := [Cond.instanceMethod yX2_cutOff, Cond.selects RX2 yX2_cutOff yX2_cutOff, Cond.code yX2_cutOff cX2_cutOff 6 (some .int), Cond.methodLink RX11 106 yX6_cutIn, Cond.instanceMethod yX6_cutIn, Cond.selects RX6 yX6_cutIn yX6_cutIn, Cond.code yX6_cutIn cX6_cutIn 4 (some .int), Cond.methodLink RX6 57 yX2_cutOff, Cond.methodLink RX11 110 yX6_driftOn, Cond.instanceMethod yX6_driftOn, Cond.selects RX6 yX6_driftOn yX6_driftOn, Cond.code yX6_driftOn cX6_driftOn 3 (some .int), Cond.methodLink RX11 114 yX6_nextWinter, Cond.instanceMethod yX6_nextWinter, Cond.selects RX6 yX6_nextWinter yX6_nextWinter, Cond.code yX6_nextWinter cX6_nextWinter 1 (some .int), Cond.methodLink RL 25 yX12_lake, Cond.instanceMethod yX12_lake, Cond.selects RX12 yX12_lake yX12_lake, Cond.code yX12_lake cX12_lake 4 (some .int), Cond.fieldLink RX12 121 "SaidInWinterModel" "base" "I", Cond.fieldLink RX12 118 "SaidInWinterModel" "end" "I", Cond.fieldLink RX12 115 "SaidInWinterModel" "at" "I", Cond.fieldLink RX12 124 "SaidInWinterModel" "isBad" "Z"]
def wsL_law0_r15 : List Cond := [Cond.fieldLink RX12 134 "SaidInWinterModel" "statements" "I", Cond.methodLink RX12 153 yX12_wrongSort, Cond.instanceMethod yX12_wrongSort, Cond.selects RX12 yX12_wrongSort yX12_wrongSort, Cond.code yX12_wrongSort cX12_wrongSort 3 (some .int), Cond.methodLink RX12 244 yX12_wrongRow, Cond.instanceMethod yX12_wrongRow, Cond.selects RX12 yX12_wrongRow yX12_wrongRow, Cond.code yX12_wrongRow cX12_wrongRow 2 (some .int), Cond.constantLong RX12 169 (7), Cond.methodLink RX12 68 yX12_in, Cond.static yX12_in, Cond.code yX12_in cX12_in 6 (some .boolean), Cond.methodLink RX12 156 yX12_readStatement, Cond.instanceMethod yX12_readStatement, Cond.selects RX12 yX12_readStatement yX12_readStatement, Cond.code yX12_readStatement cX12_readStatement 5 none, Cond.methodLink RX12 127 yX12_here, Cond.instanceMethod yX12_here, Cond.selects RX12 yX12_here yX12_here, Cond.code yX12_here cX12_here 1 (some .int), Cond.methodLink RX12 137 yX12_readDigit, Cond.instanceMethod yX12_readDigit, Cond.selects RX12 yX12_readDigit yX12_readDigit]
def wsL_law0_r16 : List Cond := [Cond.code yX12_readDigit cX12_readDigit 1 (some .int), Cond.constantLong RX12 130 (48), Cond.constantLong RX12 132 (57), Cond.methodLink RX12 159 yX12_open, Cond.instanceMethod yX12_open, Cond.selects RX12 yX12_open yX12_open, Cond.code yX12_open cX12_open 1 none, Cond.methodLink RX12 101 yX12_carryAll, Cond.instanceMethod yX12_carryAll, Cond.selects RX12 yX12_carryAll yX12_carryAll, Cond.code yX12_carryAll cX12_carryAll 4 none, Cond.fieldLink RX12 91 "SaidInWinterModel" "keptIn" "[I", Cond.fieldLink RX12 87 "SaidInWinterModel" "isTaking" "Z", Cond.fieldLink RX12 94 "SaidInWinterModel" "place" "I", Cond.fieldLink RX12 72 "SaidInWinterModel" "winters" "I", Cond.methodLink RX12 97 yX12_carry, Cond.instanceMethod yX12_carry, Cond.selects RX12 yX12_carry yX12_carry, Cond.code yX12_carry cX12_carry 2 (some .int), Cond.methodLink RX12 162 yX12_comes, Cond.instanceMethod yX12_comes, Cond.selects RX12 yX12_comes yX12_comes, Cond.code yX12_comes cX12_comes 7 (some .boolean), Cond.methodLink RX12 140 yX12_freezes]
def wsL_law0_r17 : List Cond := [Cond.instanceMethod yX12_freezes, Cond.selects RX12 yX12_freezes yX12_freezes, Cond.code yX12_freezes cX12_freezes 6 (some .boolean), Cond.methodLink RX12 75 yX12_thickOf, Cond.static yX12_thickOf, Cond.code yX12_thickOf cX12_thickOf 3 (some .int), Cond.methodLink RX12 144 yX12_warmDay, Cond.instanceMethod yX12_warmDay, Cond.selects RX12 yX12_warmDay yX12_warmDay, Cond.code yX12_warmDay cX12_warmDay 5 (some .int), Cond.methodLink RX12 79 yX12_meltsOf, Cond.static yX12_meltsOf, Cond.code yX12_meltsOf cX12_meltsOf 2 (some .int), Cond.methodLink RX12 147 yX12_cuts, Cond.instanceMethod yX12_cuts, Cond.selects RX12 yX12_cuts yX12_cuts, Cond.code yX12_cuts cX12_cuts 8 (some .int), Cond.methodLink RX12 150 yX12_drifts, Cond.instanceMethod yX12_drifts, Cond.selects RX12 yX12_drifts yX12_drifts, Cond.code yX12_drifts cX12_drifts 4 none, Cond.methodLink RX12 83 yX12_swapInts, Cond.instanceMethod yX12_swapInts, Cond.selects RX12 yX12_swapInts yX12_swapInts]
def wsL_law0_r18 : List Cond := [Cond.code yX12_swapInts cX12_swapInts 5 none, Cond.methodLink RX12 166 yX12_close, Cond.instanceMethod yX12_close, Cond.selects RX12 yX12_close yX12_close, Cond.code yX12_close cX12_close 1 none, Cond.methodLink RL 26 yX11_freeze, Cond.instanceMethod yX11_freeze, Cond.selects RX11 yX11_freeze yX11_freeze, Cond.code yX11_freeze cX11_freeze 6 (some .int), Cond.methodLink RX11 85 yX6_cellAt, Cond.methodLink RL 30 yX12_freeze, Cond.instanceMethod yX12_freeze, Cond.selects RX12 yX12_freeze yX12_freeze, Cond.code yX12_freeze cX12_freeze 5 (some .int), Cond.constantLong RX12 174 (9), Cond.methodLink RX12 171 yX12_isCell, Cond.static yX12_isCell, Cond.code yX12_isCell cX12_isCell 1 (some .boolean), Cond.constantLong RX12 66 (5), Cond.methodLink RX12 176 yX12_wrongLayer, Cond.instanceMethod yX12_wrongLayer, Cond.selects RX12 yX12_wrongLayer yX12_wrongLayer, Cond.code yX12_wrongLayer cX12_wrongLayer 2 (some .int), Cond.methodLink RL 31 yX11_thaw]
def wsL_law0_r19 : List Cond := [Cond.instanceMethod yX11_thaw, Cond.selects RX11 yX11_thaw yX11_thaw, Cond.code yX11_thaw cX11_thaw 2 (some .int), Cond.methodLink RL 34 yX12_thaw, Cond.instanceMethod yX12_thaw, Cond.selects RX12 yX12_thaw yX12_thaw, Cond.code yX12_thaw cX12_thaw 4 (some .int), Cond.constantLong RX12 179 (99), Cond.methodLink RL 35 yX11_cut, Cond.instanceMethod yX11_cut, Cond.selects RX11 yX11_cut yX11_cut, Cond.code yX11_cut cX11_cut 3 (some .int), Cond.methodLink RL 39 yX12_cut, Cond.instanceMethod yX12_cut, Cond.selects RX12 yX12_cut yX12_cut, Cond.code yX12_cut cX12_cut 3 (some .int), Cond.methodLink RL 40 yX11_drift, Cond.instanceMethod yX11_drift, Cond.selects RX11 yX11_drift yX11_drift, Cond.code yX11_drift cX11_drift 1 (some .int), Cond.methodLink RL 44 yX12_drift, Cond.instanceMethod yX12_drift, Cond.selects RX12 yX12_drift yX12_drift, Cond.code yX12_drift cX12_drift 1 (some .int)]
def wsL_law0_r20 : List Cond := [Cond.methodLink RL 45 yX11_winter, Cond.instanceMethod yX11_winter, Cond.selects RX11 yX11_winter yX11_winter, Cond.code yX11_winter cX11_winter 1 (some .int), Cond.methodLink RL 48 yX12_winter, Cond.instanceMethod yX12_winter, Cond.selects RX12 yX12_winter yX12_winter, Cond.code yX12_winter cX12_winter 1 (some .int), Cond.methodLink RL 49 yX11_layer, Cond.instanceMethod yX11_layer, Cond.selects RX11 yX11_layer yX11_layer, Cond.code yX11_layer cX11_layer 5 (some .int), Cond.methodLink RX11 117 yX2_has, Cond.methodLink RX11 123 yX2_tellOf, Cond.instanceMethod yX2_tellOf, Cond.selects RX2 yX2_tellOf yX2_tellOf, Cond.code yX2_tellOf cX2_tellOf 3 (some .int), Cond.methodLink RX2 48 yX2_oathAt, Cond.instanceMethod yX2_oathAt, Cond.selects RX2 yX2_oathAt yX2_oathAt, Cond.code yX2_oathAt cX2_oathAt 2 (some .int), Cond.methodLink RX2 51 yX2_winterAt, Cond.instanceMethod yX2_winterAt, Cond.selects RX2 yX2_winterAt yX2_winterAt]
def wsL_law0_r21 : List Cond := [Cond.code yX2_winterAt cX2_winterAt 2 (some .int), Cond.methodLink RX2 42 yX2_depthAt, Cond.instanceMethod yX2_depthAt, Cond.selects RX2 yX2_depthAt yX2_depthAt, Cond.code yX2_depthAt cX2_depthAt 4 (some .int), Cond.methodLink RX2 54 yX2_canRead, Cond.instanceMethod yX2_canRead, Cond.selects RX2 yX2_canRead yX2_canRead, Cond.code yX2_canRead cX2_canRead 2 (some .boolean), Cond.methodLink RX2 45 yX2_lightAt, Cond.instanceMethod yX2_lightAt, Cond.selects RX2 yX2_lightAt yX2_lightAt, Cond.code yX2_lightAt cX2_lightAt 2 (some .int), Cond.methodLink RL 52 yX12_layer, Cond.instanceMethod yX12_layer, Cond.selects RX12 yX12_layer yX12_layer, Cond.code yX12_layer cX12_layer 5 (some .int), Cond.methodLink RX12 187 yX12_isLayer, Cond.instanceMethod yX12_isLayer, Cond.selects RX12 yX12_isLayer yX12_isLayer, Cond.code yX12_isLayer cX12_isLayer 3 (some .boolean), Cond.methodLink RX12 181 yX12_depthOf, Cond.instanceMethod yX12_depthOf, Cond.selects RX12 yX12_depthOf yX12_depthOf]
def wsL_law0_r22 : List Cond := [Cond.code yX12_depthOf cX12_depthOf 5 (some .int), Cond.methodLink RX12 191 yX12_isRead, Cond.instanceMethod yX12_isRead, Cond.selects RX12 yX12_isRead yX12_isRead, Cond.code yX12_isRead cX12_isRead 4 (some .boolean), Cond.methodLink RX12 184 yX12_lightOf, Cond.static yX12_lightOf, Cond.code yX12_lightOf cX12_lightOf 2 (some .int), Cond.methodLink RL 53 yX11_cell, Cond.instanceMethod yX11_cell, Cond.selects RX11 yX11_cell yX11_cell, Cond.code yX11_cell cX11_cell 4 (some .int), Cond.methodLink RX11 129 yX2_ice, Cond.instanceMethod yX2_ice, Cond.selects RX2 yX2_ice yX2_ice, Cond.code yX2_ice cX2_ice 1 (some .int), Cond.methodLink RL 56 yX12_cell, Cond.instanceMethod yX12_cell, Cond.selects RX12 yX12_cell yX12_cell, Cond.code yX12_cell cX12_cell 3 (some .int), Cond.methodLink RX12 105 yX12_iceOf, Cond.instanceMethod yX12_iceOf, Cond.selects RX12 yX12_iceOf yX12_iceOf, Cond.code yX12_iceOf cX12_iceOf 4 (some .int)]
def wsL_law0_r23 : List Cond := [Cond.methodLink RL 57 yX11_holds, Cond.instanceMethod yX11_holds, Cond.selects RX11 yX11_holds yX11_holds, Cond.code yX11_holds cX11_holds 3 (some .int), Cond.methodLink RX11 132 yX2_topmostRead, Cond.instanceMethod yX2_topmostRead, Cond.selects RX2 yX2_topmostRead yX2_topmostRead, Cond.code yX2_topmostRead cX2_topmostRead 2 (some .int), Cond.methodLink RL 60 yX12_holds, Cond.instanceMethod yX12_holds, Cond.selects RX12 yX12_holds yX12_holds, Cond.code yX12_holds cX12_holds 3 (some .int), Cond.methodLink RL 61 yX11_latest, Cond.instanceMethod yX11_latest, Cond.selects RX11 yX11_latest yX11_latest, Cond.code yX11_latest cX11_latest 2 (some .int), Cond.methodLink RX11 135 yX6_latestOf, Cond.instanceMethod yX6_latestOf, Cond.selects RX6 yX6_latestOf yX6_latestOf, Cond.code yX6_latestOf cX6_latestOf 7 (some .int), Cond.methodLink RX6 73 yX2_oathAt, Cond.methodLink RX6 76 yX2_winterAt, Cond.methodLink RL 64 yX12_latest, Cond.instanceMethod yX12_latest]
def wsL_law0_r24 : List Cond := [Cond.selects RX12 yX12_latest yX12_latest, Cond.code yX12_latest cX12_latest 8 (some .int), Cond.methodLink RL 65 yX11_seen, Cond.instanceMethod yX11_seen, Cond.selects RX11 yX11_seen yX11_seen, Cond.code yX11_seen cX11_seen 3 (some .int), Cond.methodLink RX11 138 yX6_tellSeen, Cond.instanceMethod yX6_tellSeen, Cond.selects RX6 yX6_tellSeen yX6_tellSeen, Cond.code yX6_tellSeen cX6_tellSeen 4 none, Cond.methodLink RX6 79 yX2_oathsSeen, Cond.instanceMethod yX2_oathsSeen, Cond.selects RX2 yX2_oathsSeen yX2_oathsSeen, Cond.code yX2_oathsSeen cX2_oathsSeen 6 (some .int), Cond.methodLink RX2 78 Lib.Math.max.name, Cond.methodLink RX11 142 yX11_seenInAll, Cond.instanceMethod yX11_seenInAll, Cond.selects RX11 yX11_seenInAll yX11_seenInAll, Cond.code yX11_seenInAll cX11_seenInAll 4 (some .int), Cond.methodLink RL 68 yX12_seen, Cond.instanceMethod yX12_seen, Cond.selects RX12 yX12_seen yX12_seen, Cond.code yX12_seen cX12_seen 3 (some .int), Cond.constantLong RX12 197 (63)]
def wsL_law0_r25 : List Cond := [Cond.methodLink RX12 199 yX12_seenBy, Cond.instanceMethod yX12_seenBy, Cond.selects RX12 yX12_seenBy yX12_seenBy, Cond.code yX12_seenBy cX12_seenBy 5 (some .int), Cond.methodLink RX12 194 yX12_seenIn, Cond.instanceMethod yX12_seenIn, Cond.selects RX12 yX12_seenIn yX12_seenIn, Cond.code yX12_seenIn cX12_seenIn 10 (some .int), Cond.methodLink RL 69 yX11_holes, Cond.instanceMethod yX11_holes, Cond.selects RX11 yX11_holes yX11_holes, Cond.code yX11_holes cX11_holes 6 (some .int), Cond.methodLink RX11 145 yJ6_bitCount_0f7a4, Cond.static yJ6_bitCount_0f7a4, Cond.initialized RJ6, Cond.code yJ6_bitCount_0f7a4 cJ6_bitCount_0f7a4 1 (some .int), Cond.constant RJ6 265 (1431655765), Cond.constant RJ6 266 (858993459), Cond.constant RJ6 267 (252645135), Cond.methodLink RL 72 yX12_holes, Cond.instanceMethod yX12_holes, Cond.selects RX12 yX12_holes yX12_holes, Cond.code yX12_holes cX12_holes 6 (some .int), Cond.constantLong RX12 202 (1023)]
def wsL_law0_r26 : List Cond := [Cond.methodLink RX12 204 yX12_ones, Cond.static yX12_ones, Cond.code yX12_ones cX12_ones 3 (some .int), Cond.methodLink RL 73 yX11_lasts, Cond.instanceMethod yX11_lasts, Cond.selects RX11 yX11_lasts yX11_lasts, Cond.code yX11_lasts cX11_lasts 4 (some .int), Cond.methodLink RX11 150 yX2_daysOf, Cond.instanceMethod yX2_daysOf, Cond.selects RX2 yX2_daysOf yX2_daysOf, Cond.code yX2_daysOf cX2_daysOf 5 (some .int), Cond.methodLink RL 76 yX12_lasts, Cond.instanceMethod yX12_lasts, Cond.selects RX12 yX12_lasts yX12_lasts, Cond.code yX12_lasts cX12_lasts 3 (some .int), Cond.methodLink RX12 207 yX12_lastsOf, Cond.instanceMethod yX12_lastsOf, Cond.selects RX12 yX12_lastsOf yX12_lastsOf, Cond.code yX12_lastsOf cX12_lastsOf 7 (some .int), Cond.methodLink RL 77 yX11_frost, Cond.instanceMethod yX11_frost, Cond.selects RX11 yX11_frost yX11_frost, Cond.code yX11_frost cX11_frost 6 (some .int), Cond.methodLink RX11 153 yX11_isKindAndOath]
def wsL_law0_r27 : List Cond := [Cond.methodLink RX11 157 yX11_kindOf, Cond.methodLink RX11 161 ⟨"SaidInWinter$Layer", "fingersIn", "(II)I"⟩, Cond.methodLink RX11 161 yX7_fingersIn, Cond.methodLink RX11 164 ⟨"SaidInWinter$Layer", "melts", "(I)I"⟩, Cond.methodLink RX11 164 yX7_melts, Cond.methodLink RL 80 yX12_frost, Cond.instanceMethod yX12_frost, Cond.selects RX12 yX12_frost yX12_frost, Cond.code yX12_frost cX12_frost 5 (some .int), Cond.methodLink RL 81 yX11_where, Cond.instanceMethod yX11_where, Cond.selects RX11 yX11_where yX11_where, Cond.code yX11_where cX11_where 3 (some .int), Cond.methodLink RX11 167 yX6_cellsWith, Cond.instanceMethod yX6_cellsWith, Cond.selects RX6 yX6_cellsWith yX6_cellsWith, Cond.code yX6_cellsWith cX6_cellsWith 5 (some .int), Cond.methodLink RX6 82 yX2_keepsOath, Cond.instanceMethod yX2_keepsOath, Cond.selects RX2 yX2_keepsOath yX2_keepsOath, Cond.code yX2_keepsOath cX2_keepsOath 4 (some .boolean), Cond.methodLink RX2 81 yX2_daysOf, Cond.methodLink RL 84 yX12_where, Cond.instanceMethod yX12_where]
def wsL_law0_r28 : List Cond := [Cond.selects RX12 yX12_where yX12_where, Cond.code yX12_where cX12_where 6 (some .int), Cond.methodLink RL 85 yX11_thin, Cond.instanceMethod yX11_thin, Cond.selects RX11 yX11_thin yX11_thin, Cond.code yX11_thin cX11_thin 2 (some .int), Cond.methodLink RX11 170 yX6_thinLayers, Cond.instanceMethod yX6_thinLayers, Cond.selects RX6 yX6_thinLayers yX6_thinLayers, Cond.code yX6_thinLayers cX6_thinLayers 4 (some .int), Cond.methodLink RX6 91 yX6_isThin, Cond.instanceMethod yX6_isThin, Cond.selects RX6 yX6_isThin yX6_isThin, Cond.code yX6_isThin cX6_isThin 8 (some .boolean), Cond.methodLink RX6 85 yX2_thickAt, Cond.methodLink RX6 88 yX2_lowestThickOf, Cond.instanceMethod yX2_lowestThickOf, Cond.selects RX2 yX2_lowestThickOf yX2_lowestThickOf, Cond.code yX2_lowestThickOf cX2_lowestThickOf 3 (some .int), Cond.methodLink RX11 173 yX6_firstThin, Cond.instanceMethod yX6_firstThin, Cond.selects RX6 yX6_firstThin yX6_firstThin, Cond.code yX6_firstThin cX6_firstThin 3 (some .int), Cond.methodLink RL 88 yX12_thin]
def wsL_law0_r29 : List Cond := [Cond.instanceMethod yX12_thin, Cond.selects RX12 yX12_thin yX12_thin, Cond.code yX12_thin cX12_thin 7 (some .int), Cond.methodLink RX12 213 yX12_isThin, Cond.instanceMethod yX12_isThin, Cond.selects RX12 yX12_isThin yX12_isThin, Cond.code yX12_isThin cX12_isThin 5 (some .boolean), Cond.methodLink RX12 210 yX12_lowestOf, Cond.instanceMethod yX12_lowestOf, Cond.selects RX12 yX12_lowestOf yX12_lowestOf, Cond.code yX12_lowestOf cX12_lowestOf 5 (some .int), Cond.methodLink RL 89 yX11_spans, Cond.instanceMethod yX11_spans, Cond.selects RX11 yX11_spans yX11_spans, Cond.code yX11_spans cX11_spans 5 (some .int), Cond.methodLink RX11 176 yX2_layerBehind, Cond.instanceMethod yX2_layerBehind, Cond.selects RX2 yX2_layerBehind yX2_layerBehind, Cond.code yX2_layerBehind cX2_layerBehind 4 (some .int), Cond.methodLink RX11 179 yX2_winterAt, Cond.methodLink RL 92 yX12_spans, Cond.instanceMethod yX12_spans, Cond.selects RX12 yX12_spans yX12_spans, Cond.code yX12_spans cX12_spans 4 (some .int)]
def wsL_law0_r30 : List Cond := [Cond.constantLong RX12 216 (98), Cond.methodLink RX12 218 yX12_layerAt, Cond.instanceMethod yX12_layerAt, Cond.selects RX12 yX12_layerAt yX12_layerAt, Cond.code yX12_layerAt cX12_layerAt 5 (some .int), Cond.methodLink RL 93 yX11_disorder, Cond.instanceMethod yX11_disorder, Cond.selects RX11 yX11_disorder yX11_disorder, Cond.code yX11_disorder cX11_disorder 1 (some .int), Cond.methodLink RX11 182 yX6_allUnordered, Cond.instanceMethod yX6_allUnordered, Cond.selects RX6 yX6_allUnordered yX6_allUnordered, Cond.code yX6_allUnordered cX6_allUnordered 6 (some .int), Cond.methodLink RX6 70 yX2_unorderedPairs, Cond.instanceMethod yX2_unorderedPairs, Cond.selects RX2 yX2_unorderedPairs yX2_unorderedPairs, Cond.code yX2_unorderedPairs cX2_unorderedPairs 3 (some .int), Cond.methodLink RL 96 yX12_disorder, Cond.instanceMethod yX12_disorder, Cond.selects RX12 yX12_disorder yX12_disorder, Cond.code yX12_disorder cX12_disorder 4 (some .int), Cond.methodLink RL 97 yX11_order, Cond.instanceMethod yX11_order, Cond.selects RX11 yX11_order yX11_order]
def wsL_law0_r31 : List Cond := [Cond.code yX11_order cX11_order 7 (some .int), Cond.methodLink RX11 185 yX6_tellAllAhead, Cond.instanceMethod yX6_tellAllAhead, Cond.selects RX6 yX6_tellAllAhead yX6_tellAllAhead, Cond.code yX6_tellAllAhead cX6_tellAllAhead 6 none, Cond.methodLink RX6 94 yJ7_fill_53178, Cond.static yJ7_fill_53178, Cond.initialized RJ7, Cond.code yJ7_fill_53178 cJ7_fill_53178 4 none, Cond.methodLink RX6 100 yX2_tellAhead, Cond.instanceMethod yX2_tellAhead, Cond.selects RX2 yX2_tellAhead yX2_tellAhead, Cond.code yX2_tellAhead cX2_tellAhead 5 none, Cond.methodLink RX11 189 yX6_allOaths, Cond.instanceMethod yX6_allOaths, Cond.selects RX6 yX6_allOaths yX6_allOaths, Cond.code yX6_allOaths cX6_allOaths 6 (some .int), Cond.methodLink RX6 67 yX2_oaths, Cond.instanceMethod yX2_oaths, Cond.selects RX2 yX2_oaths yX2_oaths, Cond.code yX2_oaths cX2_oaths 3 (some .int), Cond.methodLink RX11 192 yX11_leastNext, Cond.instanceMethod yX11_leastNext, Cond.selects RX11 yX11_leastNext yX11_leastNext]
def wsL_law0_r32 : List Cond := [Cond.code yX11_leastNext cX11_leastNext 5 (some .int), Cond.methodLink RL 100 yX12_order, Cond.instanceMethod yX12_order, Cond.selects RX12 yX12_order yX12_order, Cond.code yX12_order cX12_order 7 (some .int), Cond.methodLink RX12 221 yX12_oathBits, Cond.instanceMethod yX12_oathBits, Cond.selects RX12 yX12_oathBits yX12_oathBits, Cond.code yX12_oathBits cX12_oathBits 4 (some .int), Cond.methodLink RX12 224 yX12_aheadOf, Cond.instanceMethod yX12_aheadOf, Cond.selects RX12 yX12_aheadOf yX12_aheadOf, Cond.code yX12_aheadOf cX12_aheadOf 6 (some .int), Cond.methodLink RL 101 yX11_joined, Cond.instanceMethod yX11_joined, Cond.selects RX11 yX11_joined yX11_joined, Cond.code yX11_joined cX11_joined 5 (some .int), Cond.methodLink RX11 195 yX11_alikeFingers, Cond.static yX11_alikeFingers, Cond.code yX11_alikeFingers cX11_alikeFingers 8 (some .int), Cond.methodLink RX11 308 Lib.Math.min.name, Cond.methodLink RX11 302 yX2_thickAt, Cond.methodLink RX11 305 yX2_oathAt, Cond.methodLink RL 104 yX12_joined]
def wsL_law0_r33 : List Cond := [Cond.instanceMethod yX12_joined, Cond.selects RX12 yX12_joined yX12_joined, Cond.code yX12_joined cX12_joined 6 (some .int), Cond.methodLink RL 105 yX11_seeded, Cond.instanceMethod yX11_seeded, Cond.selects RX11 yX11_seeded yX11_seeded, Cond.code yX11_seeded cX11_seeded 4 (some .int), Cond.fieldLink RX11 203 "SaidInWinter" "seed" "I", Cond.methodLink RX11 206 yX11_drawBelow, Cond.instanceMethod yX11_drawBelow, Cond.selects RX11 yX11_drawBelow yX11_drawBelow, Cond.code yX11_drawBelow cX11_drawBelow 2 (some .int), Cond.constant RX11 314 (1103515245), Cond.constant RX11 315 (2147483647), Cond.constant RX11 316 (65536), Cond.methodLink RX11 209 yX11_happen, Cond.instanceMethod yX11_happen, Cond.selects RX11 yX11_happen yX11_happen, Cond.code yX11_happen cX11_happen 2 none, Cond.methodLink RX11 311 yX11_freezeDrawn, Cond.instanceMethod yX11_freezeDrawn, Cond.selects RX11 yX11_freezeDrawn yX11_freezeDrawn, Cond.code yX11_freezeDrawn cX11_freezeDrawn 5 none, Cond.methodLink RX11 213 yX6_allIce]
def wsL_law0_r34 : List Cond := [Cond.instanceMethod yX6_allIce, Cond.selects RX6 yX6_allIce yX6_allIce, Cond.code yX6_allIce cX6_allIce 6 (some .int), Cond.methodLink RX6 61 yX2_ice, Cond.methodLink RL 108 yX12_seeded, Cond.instanceMethod yX12_seeded, Cond.selects RX12 yX12_seeded yX12_seeded, Cond.code yX12_seeded cX12_seeded 8 (some .int), Cond.constantLong RX12 233 (40), Cond.fieldLink RX12 227 "SaidInWinterModel" "seed" "I", Cond.methodLink RX12 235 yX12_draw, Cond.instanceMethod yX12_draw, Cond.selects RX12 yX12_draw yX12_draw, Cond.code yX12_draw cX12_draw 2 (some .int), Cond.constant RX12 230 (1103515245), Cond.constant RX12 231 (2147483647), Cond.constant RX12 232 (65536), Cond.methodLink RX12 111 yX12_iceOfAll, Cond.instanceMethod yX12_iceOfAll, Cond.selects RX12 yX12_iceOfAll yX12_iceOfAll, Cond.code yX12_iceOfAll cX12_iceOfAll 3 (some .int), Cond.methodLink RL 109 yX11_judge, Cond.instanceMethod yX11_judge, Cond.selects RX11 yX11_judge yX11_judge]
def wsL_law0_r35 : List Cond := [Cond.code yX11_judge cX11_judge 4 (some .int), Cond.methodLink RX11 216 yX11_firstWrong, Cond.instanceMethod yX11_firstWrong, Cond.selects RX11 yX11_firstWrong yX11_firstWrong, Cond.code yX11_firstWrong cX11_firstWrong 5 (some .int), Cond.methodLink RX11 317 yX9_leastNumber, Cond.instanceMethod yX9_leastNumber, Cond.selects RX9 yX9_leastNumber yX9_leastNumber, Cond.code yX9_leastNumber cX9_leastNumber 1 (some .int), Cond.fieldLink RX9 25 "SaidInWinter$Shelf" "sort" "I", Cond.constant RX9 49 (-2147483648), Cond.methodLink RL 112 yX12_judge, Cond.instanceMethod yX12_judge, Cond.selects RX12 yX12_judge yX12_judge, Cond.code yX12_judge cX12_judge 6 (some .int), Cond.methodLink RX12 247 yX12_skippedIn, Cond.instanceMethod yX12_skippedIn, Cond.selects RX12 yX12_skippedIn yX12_skippedIn, Cond.code yX12_skippedIn cX12_skippedIn 2 (some .long), Cond.constantLong RX12 238 (-128), Cond.constantLong RX12 240 (-32768), Cond.constantLong RX12 242 (-2147483648), Cond.methodLink RL 113 yX11_image, Cond.instanceMethod yX11_image]
def wsL_law0_r36 : List Cond := [Cond.selects RX11 yX11_image yX11_image, Cond.code yX11_image cX11_image 1 (some .int), Cond.fieldLink RX11 219 "SaidInWinter" "isImaged" "Z", Cond.methodLink RL 116 yX12_image, Cond.instanceMethod yX12_image, Cond.selects RX12 yX12_image yX12_image, Cond.code yX12_image cX12_image 1 (some .int), Cond.fieldLink RX12 108 "SaidInWinterModel" "hasImage" "Z", Cond.methodLink RL 117 yX11_restore, Cond.instanceMethod yX11_restore, Cond.selects RX11 yX11_restore yX11_restore, Cond.code yX11_restore cX11_restore 1 (some .int), Cond.methodLink RL 120 yX12_restore, Cond.instanceMethod yX12_restore, Cond.selects RX12 yX12_restore yX12_restore, Cond.code yX12_restore cX12_restore 1 (some .int), Cond.methodLink RL 121 yX11_count, Cond.instanceMethod yX11_count, Cond.selects RX11 yX11_count yX11_count, Cond.code yX11_count cX11_count 2 (some .int), Cond.methodLink RX11 226 yX6_allLayers, Cond.instanceMethod yX6_allLayers, Cond.selects RX6 yX6_allLayers yX6_allLayers, Cond.code yX6_allLayers cX6_allLayers 6 (some .int)]
def wsL_law0_r37 : List Cond := [Cond.methodLink RX11 229 yX6_allReadable, Cond.instanceMethod yX6_allReadable, Cond.selects RX6 yX6_allReadable yX6_allReadable, Cond.code yX6_allReadable cX6_allReadable 6 (some .int), Cond.methodLink RX6 64 yX2_readableLayers, Cond.instanceMethod yX2_readableLayers, Cond.selects RX2 yX2_readableLayers yX2_readableLayers, Cond.code yX2_readableLayers cX2_readableLayers 3 (some .int), Cond.methodLink RL 124 yX12_count, Cond.instanceMethod yX12_count, Cond.selects RX12 yX12_count yX12_count, Cond.code yX12_count cX12_count 6 (some .int), Cond.methodLink RL 125 yX11_keep, Cond.instanceMethod yX11_keep, Cond.selects RX11 yX11_keep yX11_keep, Cond.code yX11_keep cX11_keep 6 (some .int), Cond.methodLink RX11 235 yX9_takeLayer, Cond.instanceMethod yX9_takeLayer, Cond.selects RX9 yX9_takeLayer yX9_takeLayer, Cond.code yX9_takeLayer cX9_takeLayer 3 none, Cond.fieldLink RX9 19 "SaidInWinter$Shelf" "kind" "I", Cond.fieldLink RX9 22 "SaidInWinter$Shelf" "oath" "I", Cond.methodLink RL 129 yX12_keep, Cond.instanceMethod yX12_keep]
def wsL_law0_r38 : List Cond := [Cond.selects RX12 yX12_keep yX12_keep, Cond.code yX12_keep cX12_keep 5 (some .int), Cond.methodLink RL 130 yX11_row, Cond.instanceMethod yX11_row, Cond.selects RX11 yX11_row yX11_row, Cond.code yX11_row cX11_row 5 (some .int), Cond.methodLink RX11 239 yX9_takeRow, Cond.instanceMethod yX9_takeRow, Cond.selects RX9 yX9_takeRow yX9_takeRow, Cond.code yX9_takeRow cX9_takeRow 3 none, Cond.methodLink RX9 31 yJ7_fill_53178, Cond.methodLink RL 133 yX12_row, Cond.instanceMethod yX12_row, Cond.selects RX12 yX12_row yX12_row, Cond.code yX12_row cX12_row 5 (some .int), Cond.constantLong RX12 251 (2), Cond.methodLink RL 134 yX11_put, Cond.instanceMethod yX11_put, Cond.selects RX11 yX11_put yX11_put, Cond.code yX11_put cX11_put 6 (some .int), Cond.methodLink RX11 242 yX9_hasPlace, Cond.methodLink RX11 248 yX9_lowestBits, Cond.instanceMethod yX9_lowestBits, Cond.selects RX9 yX9_lowestBits yX9_lowestBits]
def wsL_law0_r39 : List Cond := [Cond.code yX9_lowestBits cX9_lowestBits 2 (some .int), Cond.methodLink RL 137 yX12_put, Cond.instanceMethod yX12_put, Cond.selects RX12 yX12_put yX12_put, Cond.code yX12_put cX12_put 5 (some .int), Cond.methodLink RX12 253 yX12_narrowed, Cond.static yX12_narrowed, Cond.code yX12_narrowed cX12_narrowed 2 (some .long), Cond.methodLink RL 138 yL_element, Cond.static yL_element, Cond.initialized RL, Cond.codeWith yL_element cL_element 5 (some .int) [(0, 9, 12, 13), (0, 9, 16, 15)], Cond.classLink RL 13 "java/lang/IllegalArgumentException", Cond.classLink RL 15 "java/lang/IllegalStateException", Cond.methodLink RL 7 yX11_element, Cond.instanceMethod yX11_element, Cond.selects RX11 yX11_element yX11_element, Cond.code yX11_element cX11_element 4 (some .long), Cond.classLink RX11 251 "java/lang/IllegalArgumentException", Cond.initialized "java/lang/IllegalArgumentException", Cond.classLink RX11 258 "java/lang/IllegalStateException", Cond.initialized "java/lang/IllegalStateException", Cond.methodLink RL 143 yX12_element, Cond.instanceMethod yX12_element]
def wsL_law0_r40 : List Cond := [Cond.selects RX12 yX12_element yX12_element, Cond.code yX12_element cX12_element 4 (some .long), Cond.methodLink RL 144 yX12_thrown, Cond.instanceMethod yX12_thrown, Cond.selects RX12 yX12_thrown yX12_thrown, Cond.code yX12_thrown cX12_thrown 1 (some .int), Cond.methodLink RL 147 yX11_copy, Cond.instanceMethod yX11_copy, Cond.selects RX11 yX11_copy yX11_copy, Cond.code yX11_copy cX11_copy 8 (some .int), Cond.methodLink RX11 268 arraycopyName, Cond.native arraycopyName, Cond.static arraycopyName, Cond.initialized "java/lang/System", Cond.methodLink RX11 265 yX9_hasStretch, Cond.instanceMethod yX9_hasStretch, Cond.selects RX9 yX9_hasStretch yX9_hasStretch, Cond.code yX9_hasStretch cX9_hasStretch 3 (some .boolean), Cond.methodLink RL 151 yX12_copy, Cond.instanceMethod yX12_copy, Cond.selects RX12 yX12_copy yX12_copy, Cond.code yX12_copy cX12_copy 7 (some .int), Cond.methodLink RL 152 yX11_toll, Cond.instanceMethod yX11_toll]
def wsL_law0_r41 : List Cond := [Cond.selects RX11 yX11_toll yX11_toll, Cond.code yX11_toll cX11_toll 4 (some .int), Cond.methodLink RX11 274 ⟨"SaidInWinter$Layer", "tollWith", "(I)I"⟩, Cond.sameMethod "SaidInWinter$Layer" "SaidInWinter$Layer" "tollWith" "(I)I", Cond.instanceMethod ⟨"SaidInWinter$Layer", "tollWith", "(I)I"⟩, Cond.selects RX0 ⟨"SaidInWinter$Layer", "tollWith", "(I)I"⟩ yX0_tollWith, Cond.instanceMethod yX0_tollWith, Cond.code yX0_tollWith cX0_tollWith 2 (some .int), Cond.methodLink RX0 15 yX3_tollWith, Cond.sameMethod "SaidInWinter$Clear" "SaidInWinter$Clear" "tollWith" "(I)I", Cond.instanceMethod yX3_tollWith, Cond.code yX3_tollWith cX3_tollWith 2 (some .int), Cond.methodLink RX3 18 yX7_tollWith, Cond.instanceMethod yX7_tollWith, Cond.code yX7_tollWith cX7_tollWith 2 (some .int), Cond.selects RX1 ⟨"SaidInWinter$Layer", "tollWith", "(I)I"⟩ yX1_tollWith, Cond.instanceMethod yX1_tollWith, Cond.code yX1_tollWith cX1_tollWith 2 (some .int), Cond.methodLink RX1 14 yX3_tollWith, Cond.selects RX3 ⟨"SaidInWinter$Layer", "tollWith", "(I)I"⟩ yX3_tollWith, Cond.selects RX4 ⟨"SaidInWinter$Layer", "tollWith", "(I)I"⟩ yX4_tollWith, Cond.instanceMethod yX4_tollWith, Cond.code yX4_tollWith cX4_tollWith 2 (some .int), Cond.methodLink RX4 11 yX10_tollWith]
def wsL_law0_r42 : List Cond := [Cond.sameMethod "SaidInWinter$Snow" "SaidInWinter$Snow" "tollWith" "(I)I", Cond.instanceMethod yX10_tollWith, Cond.code yX10_tollWith cX10_tollWith 2 (some .int), Cond.methodLink RX10 18 yX7_tollWith, Cond.selects RX5 ⟨"SaidInWinter$Layer", "tollWith", "(I)I"⟩ yX5_tollWith, Cond.instanceMethod yX5_tollWith, Cond.code yX5_tollWith cX5_tollWith 2 (some .int), Cond.methodLink RX5 20 yX7_tollWith, Cond.methodLink RX11 274 yX7_tollWith, Cond.selects RX7 yX7_tollWith yX7_tollWith, Cond.selects RX8 ⟨"SaidInWinter$Layer", "tollWith", "(I)I"⟩ yX8_tollWith, Cond.instanceMethod yX8_tollWith, Cond.code yX8_tollWith cX8_tollWith 2 (some .int), Cond.methodLink RX8 15 yX10_tollWith, Cond.selects RX10 ⟨"SaidInWinter$Layer", "tollWith", "(I)I"⟩ yX10_tollWith, Cond.methodLink RL 155 yX12_toll, Cond.instanceMethod yX12_toll, Cond.selects RX12 yX12_toll yX12_toll, Cond.code yX12_toll cX12_toll 2 (some .int), Cond.methodLink RX12 257 yX12_tollOf, Cond.static yX12_tollOf, Cond.code yX12_tollOf cX12_tollOf 2 (some .int), Cond.methodLink RL 156 yX11_toss, Cond.instanceMethod yX11_toss]
def wsL_law0_r43 : List Cond := [Cond.selects RX11 yX11_toss yX11_toss, Cond.code yX11_toss cX11_toss 4 (some .int), Cond.methodLink RX11 277 yX11_caughtFailure, Cond.static yX11_caughtFailure, Cond.codeWith yX11_caughtFailure cX11_caughtFailure 3 (some .int) [(7, 11, 14, 258), (7, 11, 17, 251), (7, 11, 23, 323)], Cond.classLink RX11 323 "java/lang/UnsupportedOperationException", Cond.methodLink RX11 320 ⟨"SaidInWinter$Layer", "fail", "()V"⟩, Cond.sameMethod "SaidInWinter$Layer" "SaidInWinter$Layer" "fail" "()V", Cond.selects RX0 ⟨"SaidInWinter$Layer", "fail", "()V"⟩ yX7_fail, Cond.instanceMethod yX7_fail, Cond.code yX7_fail cX7_fail 1 none, Cond.classLink RX7 7 "java/lang/IllegalStateException", Cond.instanceMethod ⟨"SaidInWinter$Layer", "fail", "()V"⟩, Cond.selects RX1 ⟨"SaidInWinter$Layer", "fail", "()V"⟩ yX1_fail, Cond.instanceMethod yX1_fail, Cond.code yX1_fail cX1_fail 1 none, Cond.classLink RX1 17 "java/lang/IllegalArgumentException", Cond.selects RX3 ⟨"SaidInWinter$Layer", "fail", "()V"⟩ yX7_fail, Cond.selects RX4 ⟨"SaidInWinter$Layer", "fail", "()V"⟩ yX7_fail, Cond.selects RX5 ⟨"SaidInWinter$Layer", "fail", "()V"⟩ yX5_fail, Cond.instanceMethod yX5_fail, Cond.code yX5_fail cX5_fail 1 none, Cond.methodLink RX11 320 yX7_fail, Cond.selects RX7 yX7_fail yX7_fail]
def wsL_law0_r44 : List Cond := [Cond.selects RX8 ⟨"SaidInWinter$Layer", "fail", "()V"⟩ yX8_fail, Cond.instanceMethod yX8_fail, Cond.code yX8_fail cX8_fail 1 none, Cond.classLink RX8 18 "java/lang/UnsupportedOperationException", Cond.initialized "java/lang/UnsupportedOperationException", Cond.selects RX10 ⟨"SaidInWinter$Layer", "fail", "()V"⟩ yX7_fail, Cond.methodLink RL 159 yX12_toss, Cond.instanceMethod yX12_toss, Cond.selects RX12 yX12_toss yX12_toss, Cond.code yX12_toss cX12_toss 4 (some .int)]
def wsL_law0 : List Cond := (wsL_law0_r1 ++ (wsL_law0_r2 ++ (wsL_law0_r3 ++ (wsL_law0_r4 ++ (wsL_law0_r5 ++ (wsL_law0_r6 ++ (wsL_law0_r7 ++ (wsL_law0_r8 ++ (wsL_law0_r9 ++ (wsL_law0_r10 ++ (wsL_law0_r11 ++ (wsL_law0_r12 ++ (wsL_law0_r13 ++ (wsL_law0_r14 ++ (wsL_law0_r15 ++ (wsL_law0_r16 ++ (wsL_law0_r17 ++ (wsL_law0_r18 ++ (wsL_law0_r19 ++ (wsL_law0_r20 ++ (wsL_law0_r21 ++ (wsL_law0_r22 ++ (wsL_law0_r23 ++ (wsL_law0_r24 ++ (wsL_law0_r25 ++ (wsL_law0_r26 ++ (wsL_law0_r27 ++ (wsL_law0_r28 ++ (wsL_law0_r29 ++ (wsL_law0_r30 ++ (wsL_law0_r31 ++ (wsL_law0_r32 ++ (wsL_law0_r33 ++ (wsL_law0_r34 ++ (wsL_law0_r35 ++ (wsL_law0_r36 ++ (wsL_law0_r37 ++ (wsL_law0_r38 ++ (wsL_law0_r39 ++ (wsL_law0_r40 ++ (wsL_law0_r41 ++ (wsL_law0_r42 ++ (wsL_law0_r43 ++ wsL_law0_r44))))))))))))))))))))))))))))))))))))))))))) ++ wsX110 ++ wsX120 ++ wsX70 ++ wsX30 ++ wsX50 ++ wsX100 ++ wsX10 ++ wsX80 ++ wsX00 ++ wsX40 ++ wsX60 ++ wsX90 ++ wsX20 ++ ([] : List Cond)
def wsL_law : List Cond := wsL_law0 ++ (vx_atS RX11 255 "java/lang/IllegalArgumentException" ["java/lang/RuntimeException", "java/lang/Exception"]).filter goodWord ++ (vx_atS RX11 262 "java/lang/IllegalStateException" ["java/lang/RuntimeException", "java/lang/Exception"]).filter goodWord ++ (vx_atS RX7 11 "java/lang/IllegalStateException" ["java/lang/RuntimeException", "java/lang/Exception"]).filter goodWord ++ (vx_atS RX1 21 "java/lang/IllegalArgumentException" ["java/lang/RuntimeException", "java/lang/Exception"]).filter goodWord ++ (vx_atS RX8 22 "java/lang/UnsupportedOperationException" ["java/lang/RuntimeException", "java/lang/Exception"]).filter goodWord
theorem mem_r {big ws : List Cond} (ps : List Nat) (hp : ws = ps.filterMap (fun i => big[i]?)) : ∀ w ∈ ws, w ∈ big := by
  intro w hw
  rw [hp] at hw
  obtain ⟨i, -, hi⟩ := List.mem_filterMap.mp hw
  exact List.mem_of_getElem? hi
set_option maxRecDepth 20000 in
theorem wsL_law0_r1_in : ∀ w ∈ wsL_law0_r1, w ∈ lw_tbl := mem_r [65, 66, 42, 925, 926, 54, 1019, 67, 68, 69, 70, 71, 72, 73, 75, 43, 81, 82, 44, 88, 89, 45, 95, 96] (by decide +kernel)
set_option maxRecDepth 20000 in
theorem wsL_law0_r2_in : ∀ w ∈ wsL_law0_r2, w ∈ lw_tbl := mem_r [46, 102, 103, 47, 109, 110, 48, 116, 117, 49, 123, 124, 50, 211, 130, 131, 51, 212, 213, 214, 179, 215, 181, 53] (by decide +kernel)
set_option maxRecDepth 20000 in
theorem wsL_law0_r3_in : ∀ w ∈ wsL_law0_r3, w ∈ lw_tbl := mem_r [167, 216, 217, 77, 78, 79, 84, 85, 91, 92, 98, 99, 105, 106, 112, 113, 119, 120, 126, 127, 132, 133, 134, 135] (by decide +kernel)
set_option maxRecDepth 20000 in
theorem wsL_law0_r4_in : ∀ w ∈ wsL_law0_r4, w ∈ lw_tbl := mem_r [136, 169, 168, 138, 52, 140, 141, 142, 143, 144, 145, 146, 147, 148, 183, 184, 185, 186, 927, 928, 929, 930, 932, 933] (by decide +kernel)
set_option maxRecDepth 20000 in
theorem wsL_law0_r5_in : ∀ w ∈ wsL_law0_r5, w ∈ lw_tbl := mem_r [934, 935, 936, 938, 939, 949, 950, 951, 953, 954, 955, 956, 957, 958, 959, 937, 239, 240, 241, 242, 243, 245, 0, 246] (by decide +kernel)
set_option maxRecDepth 20000 in
theorem wsL_law0_r6_in : ∀ w ∈ wsL_law0_r6, w ∈ lw_tbl := mem_r [247, 248, 249, 250, 251, 252, 253, 188, 254, 255, 256, 257, 258, 259, 260, 261, 262, 263, 264, 196, 265, 266, 267, 268] (by decide +kernel)
set_option maxRecDepth 20000 in
theorem wsL_law0_r7_in : ∀ w ∈ wsL_law0_r7, w ∈ lw_tbl := mem_r [269, 270, 271, 272, 274, 276, 1, 277, 435, 331, 55, 332, 278, 279, 280, 281, 170, 282, 283, 284, 285, 149, 286, 288] (by decide +kernel)
set_option maxRecDepth 20000 in
theorem wsL_law0_r8_in : ∀ w ∈ wsL_law0_r8, w ∈ lw_tbl := mem_r [2, 289, 290, 291, 292, 293, 294, 295, 296, 297, 300, 301, 303, 304, 305, 306, 307, 308, 309, 312, 310, 313, 314, 315] (by decide +kernel)
set_option maxRecDepth 20000 in
theorem wsL_law0_r9_in : ∀ w ∈ wsL_law0_r9, w ∈ lw_tbl := mem_r [316, 1317, 122, 317, 318, 319, 87, 310, 338, 320, 321, 322, 323, 324, 325, 101, 326, 327, 328, 330, 329, 94, 309, 311] (by decide +kernel)
set_option maxRecDepth 20000 in
theorem wsL_law0_r10_in : ∀ w ∈ wsL_law0_r10, w ∈ lw_tbl := mem_r [333, 334, 335, 336, 1318, 115, 337, 339, 342, 340, 343, 344, 345, 346, 340, 368, 347, 348, 349, 350, 1319, 108, 351, 352] (by decide +kernel)
set_option maxRecDepth 20000 in
theorem wsL_law0_r11_in : ∀ w ∈ wsL_law0_r11, w ∈ lw_tbl := mem_r [353, 354, 355, 1320, 129, 356, 357, 358, 359, 360, 361, 362, 339, 341, 363, 364, 365, 366, 367, 369, 372, 370, 373, 374] (by decide +kernel)
set_option maxRecDepth 20000 in
theorem wsL_law0_r12_in : ∀ w ∈ wsL_law0_r12, w ∈ lw_tbl := mem_r [375, 376, 1321, 377, 378, 379, 370, 394, 380, 381, 382, 383, 384, 385, 386, 387, 388, 369, 371, 389, 390, 391, 392, 393] (by decide +kernel)
set_option maxRecDepth 20000 in
theorem wsL_law0_r13_in : ∀ w ∈ wsL_law0_r13, w ∈ lw_tbl := mem_r [395, 396, 397, 398, 399, 400, 401, 402, 415, 416, 417, 403, 404, 405, 406, 407, 408, 409, 410, 411, 412, 413, 414, 418] (by decide +kernel)
set_option maxRecDepth 20000 in
theorem wsL_law0_r14_in : ∀ w ∈ wsL_law0_r14, w ∈ lw_tbl := mem_r [419, 420, 421, 422, 423, 424, 425, 426, 427, 428, 429, 430, 431, 432, 433, 434, 1048, 1049, 1050, 1051, 944, 945, 946, 947] (by decide +kernel)
set_option maxRecDepth 20000 in
theorem wsL_law0_r15_in : ∀ w ∈ wsL_law0_r15, w ∈ lw_tbl := mem_r [948, 1052, 1054, 14, 1055, 1056, 1058, 15, 1059, 1060, 1061, 1062, 1063, 1064, 1066, 16, 1067, 1068, 1070, 17, 1071, 1072, 1074, 18] (by decide +kernel)
set_option maxRecDepth 20000 in
theorem wsL_law0_r16_in : ∀ w ∈ wsL_law0_r16, w ∈ lw_tbl := mem_r [1075, 1076, 1077, 1078, 1080, 19, 1081, 1028, 1030, 10, 1031, 943, 942, 941, 931, 1032, 1034, 11, 1035, 1082, 1084, 20, 1085, 1086] (by decide +kernel)
set_option maxRecDepth 20000 in
theorem wsL_law0_r17_in : ∀ w ∈ wsL_law0_r17, w ∈ lw_tbl := mem_r [1088, 21, 1089, 1090, 1091, 1092, 1093, 1095, 22, 1096, 1097, 1098, 1099, 1100, 1102, 23, 1103, 1104, 1106, 24, 1107, 1108, 1110, 25] (by decide +kernel)
set_option maxRecDepth 20000 in
theorem wsL_law0_r18_in : ∀ w ∈ wsL_law0_r18, w ∈ lw_tbl := mem_r [1111, 1112, 1114, 26, 1115, 436, 437, 438, 439, 440, 1116, 1117, 1118, 1119, 1124, 1120, 1121, 1122, 1123, 1125, 1127, 27, 1128, 441] (by decide +kernel)
set_option maxRecDepth 20000 in
theorem wsL_law0_r19_in : ∀ w ∈ wsL_law0_r19, w ∈ lw_tbl := mem_r [442, 443, 444, 1129, 1130, 1131, 1132, 1133, 445, 446, 447, 448, 1134, 1135, 1136, 1137, 449, 450, 451, 452, 1138, 1139, 1140, 1141] (by decide +kernel)
set_option maxRecDepth 20000 in
theorem wsL_law0_r20_in : ∀ w ∈ wsL_law0_r20, w ∈ lw_tbl := mem_r [453, 454, 455, 456, 1142, 1143, 1144, 1145, 457, 458, 459, 460, 461, 462, 463, 464, 465, 466, 467, 468, 469, 470, 471, 472] (by decide +kernel)
set_option maxRecDepth 20000 in
theorem wsL_law0_r21_in : ∀ w ∈ wsL_law0_r21, w ∈ lw_tbl := mem_r [473, 474, 475, 476, 477, 478, 479, 480, 481, 482, 483, 484, 485, 1146, 1147, 1148, 1149, 1150, 1152, 28, 1153, 1154, 1156, 29] (by decide +kernel)
set_option maxRecDepth 20000 in
theorem wsL_law0_r22_in : ∀ w ∈ wsL_law0_r22, w ∈ lw_tbl := mem_r [1157, 1158, 1160, 30, 1161, 1162, 1163, 1164, 486, 487, 488, 489, 490, 491, 492, 493, 1165, 1166, 1167, 1168, 1040, 1042, 13, 1043] (by decide +kernel)
set_option maxRecDepth 20000 in
theorem wsL_law0_r23_in : ∀ w ∈ wsL_law0_r23, w ∈ lw_tbl := mem_r [494, 495, 496, 497, 498, 499, 500, 501, 1169, 1170, 1171, 1172, 502, 503, 504, 505, 506, 507, 508, 509, 510, 511, 1173, 1174] (by decide +kernel)
set_option maxRecDepth 20000 in
theorem wsL_law0_r24_in : ∀ w ∈ wsL_law0_r24, w ∈ lw_tbl := mem_r [1175, 1176, 512, 513, 514, 515, 516, 517, 518, 519, 520, 521, 522, 523, 524, 525, 527, 3, 528, 1177, 1178, 1179, 1180, 1181] (by decide +kernel)
set_option maxRecDepth 20000 in
theorem wsL_law0_r25_in : ∀ w ∈ wsL_law0_r25, w ∈ lw_tbl := mem_r [1182, 1184, 31, 1185, 1186, 1188, 32, 1189, 529, 530, 531, 532, 533, 534, 56, 535, 536, 537, 538, 1190, 1191, 1192, 1193, 1194] (by decide +kernel)
set_option maxRecDepth 20000 in
theorem wsL_law0_r26_in : ∀ w ∈ wsL_law0_r26, w ∈ lw_tbl := mem_r [1195, 1196, 1197, 539, 540, 541, 542, 543, 544, 545, 546, 1198, 1199, 1200, 1201, 1202, 1204, 33, 1205, 547, 548, 549, 550, 551] (by decide +kernel)
set_option maxRecDepth 20000 in
theorem wsL_law0_r27_in : ∀ w ∈ wsL_law0_r27, w ∈ lw_tbl := mem_r [552, 553, 553, 554, 554, 1206, 1207, 1208, 1209, 555, 556, 557, 558, 559, 560, 561, 562, 563, 564, 565, 566, 567, 1210, 1211] (by decide +kernel)
set_option maxRecDepth 20000 in
theorem wsL_law0_r28_in : ∀ w ∈ wsL_law0_r28, w ∈ lw_tbl := mem_r [1212, 1213, 568, 569, 570, 571, 572, 573, 574, 575, 576, 577, 578, 579, 580, 581, 582, 583, 584, 585, 586, 587, 588, 1214] (by decide +kernel)
set_option maxRecDepth 20000 in
theorem wsL_law0_r29_in : ∀ w ∈ wsL_law0_r29, w ∈ lw_tbl := mem_r [1215, 1216, 1217, 1218, 1220, 34, 1221, 1222, 1224, 35, 1225, 589, 590, 591, 592, 593, 594, 595, 596, 597, 1226, 1227, 1228, 1229] (by decide +kernel)
set_option maxRecDepth 20000 in
theorem wsL_law0_r30_in : ∀ w ∈ wsL_law0_r30, w ∈ lw_tbl := mem_r [1230, 1231, 1233, 36, 1234, 598, 599, 600, 601, 602, 603, 604, 605, 606, 607, 608, 609, 1235, 1236, 1237, 1238, 610, 611, 612] (by decide +kernel)
set_option maxRecDepth 20000 in
theorem wsL_law0_r31_in : ∀ w ∈ wsL_law0_r31, w ∈ lw_tbl := mem_r [613, 614, 615, 616, 617, 618, 619, 57, 620, 621, 622, 623, 624, 626, 627, 628, 629, 630, 631, 632, 633, 634, 636, 4] (by decide +kernel)
set_option maxRecDepth 20000 in
theorem wsL_law0_r32_in : ∀ w ∈ wsL_law0_r32, w ∈ lw_tbl := mem_r [637, 1239, 1240, 1241, 1242, 1243, 1245, 37, 1246, 1247, 1249, 38, 1250, 638, 639, 640, 641, 642, 643, 644, 647, 645, 646, 1251] (by decide +kernel)
set_option maxRecDepth 20000 in
theorem wsL_law0_r33_in : ∀ w ∈ wsL_law0_r33, w ∈ lw_tbl := mem_r [1252, 1253, 1254, 648, 649, 650, 651, 219, 652, 654, 5, 655, 656, 657, 658, 659, 661, 6, 662, 663, 665, 7, 666, 667] (by decide +kernel)
set_option maxRecDepth 20000 in
theorem wsL_law0_r34_in : ∀ w ∈ wsL_law0_r34, w ∈ lw_tbl := mem_r [668, 669, 670, 671, 1255, 1256, 1257, 1258, 1259, 952, 1260, 1262, 39, 1263, 1264, 1265, 1266, 1036, 1038, 12, 1039, 672, 673, 674] (by decide +kernel)
set_option maxRecDepth 20000 in
theorem wsL_law0_r35_in : ∀ w ∈ wsL_law0_r35, w ∈ lw_tbl := mem_r [675, 676, 678, 8, 679, 680, 681, 682, 683, 195, 684, 1267, 1268, 1269, 1270, 1271, 1273, 40, 1274, 1275, 1276, 1277, 685, 686] (by decide +kernel)
set_option maxRecDepth 20000 in
theorem wsL_law0_r36_in : ∀ w ∈ wsL_law0_r36, w ∈ lw_tbl := mem_r [687, 688, 218, 1024, 1025, 1026, 1027, 940, 689, 690, 691, 692, 1044, 1045, 1046, 1047, 693, 694, 695, 696, 697, 698, 699, 700] (by decide +kernel)
set_option maxRecDepth 20000 in
theorem wsL_law0_r37_in : ∀ w ∈ wsL_law0_r37, w ∈ lw_tbl := mem_r [701, 702, 703, 704, 705, 706, 707, 708, 1278, 1279, 1280, 1281, 709, 710, 711, 712, 713, 714, 715, 716, 190, 192, 1282, 1283] (by decide +kernel)
set_option maxRecDepth 20000 in
theorem wsL_law0_r38_in : ∀ w ∈ wsL_law0_r38, w ∈ lw_tbl := mem_r [1284, 1285, 717, 718, 719, 720, 721, 722, 723, 724, 725, 1286, 1287, 1288, 1289, 1290, 726, 727, 728, 729, 730, 731, 732, 733] (by decide +kernel)
set_option maxRecDepth 20000 in
theorem wsL_law0_r39_in : ∀ w ∈ wsL_law0_r39, w ∈ lw_tbl := mem_r [734, 1291, 1292, 1293, 1294, 1295, 1296, 1297, 911, 912, 41, 913, 914, 915, 916, 917, 918, 919, 791, 61, 790, 62, 1298, 1299] (by decide +kernel)
set_option maxRecDepth 20000 in
theorem wsL_law0_r40_in : ∀ w ∈ wsL_law0_r40, w ∈ lw_tbl := mem_r [1300, 1301, 1020, 1021, 1022, 1023, 735, 736, 737, 738, 743, 745, 744, 63, 739, 740, 741, 742, 1302, 1303, 1304, 1305, 746, 747] (by decide +kernel)
set_option maxRecDepth 20000 in
theorem wsL_law0_r41_in : ∀ w ∈ wsL_law0_r41, w ∈ lw_tbl := mem_r [748, 749, 750, 753, 751, 754, 755, 756, 757, 1322, 758, 759, 760, 751, 782, 761, 762, 763, 764, 765, 766, 767, 768, 769] (by decide +kernel)
set_option maxRecDepth 20000 in
theorem wsL_law0_r42_in : ∀ w ∈ wsL_law0_r42, w ∈ lw_tbl := mem_r [1323, 770, 771, 772, 773, 774, 775, 776, 750, 752, 777, 778, 779, 780, 781, 1306, 1307, 1308, 1309, 1310, 1311, 1312, 783, 784] (by decide +kernel)
set_option maxRecDepth 20000 in
theorem wsL_law0_r43_in : ∀ w ∈ wsL_law0_r43, w ∈ lw_tbl := mem_r [785, 786, 787, 788, 789, 792, 793, 796, 797, 794, 894, 895, 794, 798, 799, 800, 801, 869, 870, 871, 872, 873, 793, 795] (by decide +kernel)
set_option maxRecDepth 20000 in
theorem wsL_law0_r44_in : ∀ w ∈ wsL_law0_r44, w ∈ lw_tbl := mem_r [874, 875, 876, 877, 64, 893, 1313, 1314, 1315, 1316] (by decide +kernel)
theorem mem_app {a b big : List Cond} (ha : ∀ w ∈ a, w ∈ big) (hb : ∀ w ∈ b, w ∈ big) : ∀ w ∈ a ++ b, w ∈ big := fun w h => (List.mem_append.mp h).elim (ha w) (hb w)
theorem wsX00_in : ∀ w ∈ wsX00, w ∈ lw_tbl := by decide +kernel
theorem wsX10_in : ∀ w ∈ wsX10, w ∈ lw_tbl := by decide +kernel
theorem wsX100_in : ∀ w ∈ wsX100, w ∈ lw_tbl := by decide +kernel
theorem wsX110_in : ∀ w ∈ wsX110, w ∈ lw_tbl := by decide +kernel
theorem wsX120_in : ∀ w ∈ wsX120, w ∈ lw_tbl := by decide +kernel
theorem wsX20_in : ∀ w ∈ wsX20, w ∈ lw_tbl := by decide +kernel
theorem wsX30_in : ∀ w ∈ wsX30, w ∈ lw_tbl := by decide +kernel
theorem wsX40_in : ∀ w ∈ wsX40, w ∈ lw_tbl := by decide +kernel
theorem wsX50_in : ∀ w ∈ wsX50, w ∈ lw_tbl := by decide +kernel
theorem wsX60_in : ∀ w ∈ wsX60, w ∈ lw_tbl := by decide +kernel
theorem wsX70_in : ∀ w ∈ wsX70, w ∈ lw_tbl := by decide +kernel
theorem wsX80_in : ∀ w ∈ wsX80, w ∈ lw_tbl := by decide +kernel
theorem wsX90_in : ∀ w ∈ wsX90, w ∈ lw_tbl := by decide +kernel
theorem wsL_law_in0 : ∀ w ∈ wsL_law0, w ∈ lw_tbl := (mem_app (mem_app (mem_app (mem_app (mem_app (mem_app (mem_app (mem_app (mem_app (mem_app (mem_app (mem_app (mem_app (mem_app (mem_app wsL_law0_r1_in (mem_app wsL_law0_r2_in (mem_app wsL_law0_r3_in (mem_app wsL_law0_r4_in (mem_app wsL_law0_r5_in (mem_app wsL_law0_r6_in (mem_app wsL_law0_r7_in (mem_app wsL_law0_r8_in (mem_app wsL_law0_r9_in (mem_app wsL_law0_r10_in (mem_app wsL_law0_r11_in (mem_app wsL_law0_r12_in (mem_app wsL_law0_r13_in (mem_app wsL_law0_r14_in (mem_app wsL_law0_r15_in (mem_app wsL_law0_r16_in (mem_app wsL_law0_r17_in (mem_app wsL_law0_r18_in (mem_app wsL_law0_r19_in (mem_app wsL_law0_r20_in (mem_app wsL_law0_r21_in (mem_app wsL_law0_r22_in (mem_app wsL_law0_r23_in (mem_app wsL_law0_r24_in (mem_app wsL_law0_r25_in (mem_app wsL_law0_r26_in (mem_app wsL_law0_r27_in (mem_app wsL_law0_r28_in (mem_app wsL_law0_r29_in (mem_app wsL_law0_r30_in (mem_app wsL_law0_r31_in (mem_app wsL_law0_r32_in (mem_app wsL_law0_r33_in (mem_app wsL_law0_r34_in (mem_app wsL_law0_r35_in (mem_app wsL_law0_r36_in (mem_app wsL_law0_r37_in (mem_app wsL_law0_r38_in (mem_app wsL_law0_r39_in (mem_app wsL_law0_r40_in (mem_app wsL_law0_r41_in (mem_app wsL_law0_r42_in (mem_app wsL_law0_r43_in wsL_law0_r44_in))))))))))))))))))))))))))))))))))))))))))) wsX110_in) wsX120_in) wsX70_in) wsX30_in) wsX50_in) wsX100_in) wsX10_in) wsX80_in) wsX00_in) wsX40_in) wsX60_in) wsX90_in) wsX20_in) (fun _ h => absurd h List.not_mem_nil))
theorem wsL_law_x0 : ∀ w ∈ (vx_atS RX11 255 "java/lang/IllegalArgumentException" ["java/lang/RuntimeException", "java/lang/Exception"]).filter goodWord, w ∈ lw_tbl := by decide +kernel
theorem wsL_law_x1 : ∀ w ∈ (vx_atS RX11 262 "java/lang/IllegalStateException" ["java/lang/RuntimeException", "java/lang/Exception"]).filter goodWord, w ∈ lw_tbl := by decide +kernel
theorem wsL_law_x2 : ∀ w ∈ (vx_atS RX7 11 "java/lang/IllegalStateException" ["java/lang/RuntimeException", "java/lang/Exception"]).filter goodWord, w ∈ lw_tbl := by decide +kernel
theorem wsL_law_x3 : ∀ w ∈ (vx_atS RX1 21 "java/lang/IllegalArgumentException" ["java/lang/RuntimeException", "java/lang/Exception"]).filter goodWord, w ∈ lw_tbl := by decide +kernel
theorem wsL_law_x4 : ∀ w ∈ (vx_atS RX8 22 "java/lang/UnsupportedOperationException" ["java/lang/RuntimeException", "java/lang/Exception"]).filter goodWord, w ∈ lw_tbl := by decide +kernel
theorem wsL_law_in : ∀ w ∈ wsL_law, w ∈ lw_tbl := fun w h => (List.mem_append.mp h).elim (fun h => (List.mem_append.mp h).elim (fun h => (List.mem_append.mp h).elim (fun h => (List.mem_append.mp h).elim (fun h => (List.mem_append.mp h).elim (fun h => wsL_law_in0 w h) (fun h => wsL_law_x0 w h)) (fun h => wsL_law_x1 w h)) (fun h => wsL_law_x2 w h)) (fun h => wsL_law_x3 w h)) (fun h => wsL_law_x4 w h)
theorem inlX0 : ∀ w ∈ wsX00, w ∈ wsL_law := fun _ h => List.mem_append_left _ (List.mem_append_left _ (List.mem_append_left _ (List.mem_append_left _ (List.mem_append_left _ (List.mem_append_left _ (List.mem_append_left _ (List.mem_append_left _ (List.mem_append_left _ (List.mem_append_left _ (List.mem_append_right _ h))))))))))
theorem inX0 : ∀ w ∈ wsX00, w ∈ lw_tbl := fun w h => wsL_law_in w (inlX0 w h)
theorem inlX1 : ∀ w ∈ wsX10, w ∈ wsL_law := fun _ h => List.mem_append_left _ (List.mem_append_left _ (List.mem_append_left _ (List.mem_append_left _ (List.mem_append_left _ (List.mem_append_left _ (List.mem_append_left _ (List.mem_append_left _ (List.mem_append_left _ (List.mem_append_left _ (List.mem_append_left _ (List.mem_append_left _ (List.mem_append_right _ h))))))))))))
theorem inX1 : ∀ w ∈ wsX10, w ∈ lw_tbl := fun w h => wsL_law_in w (inlX1 w h)
theorem inlX2 : ∀ w ∈ wsX20, w ∈ wsL_law := fun _ h => List.mem_append_left _ (List.mem_append_left _ (List.mem_append_left _ (List.mem_append_left _ (List.mem_append_left _ (List.mem_append_left _ (List.mem_append_right _ h))))))
theorem inX2 : ∀ w ∈ wsX20, w ∈ lw_tbl := fun w h => wsL_law_in w (inlX2 w h)
theorem inlX3 : ∀ w ∈ wsX30, w ∈ wsL_law := fun _ h => List.mem_append_left _ (List.mem_append_left _ (List.mem_append_left _ (List.mem_append_left _ (List.mem_append_left _ (List.mem_append_left _ (List.mem_append_left _ (List.mem_append_left _ (List.mem_append_left _ (List.mem_append_left _ (List.mem_append_left _ (List.mem_append_left _ (List.mem_append_left _ (List.mem_append_left _ (List.mem_append_left _ (List.mem_append_right _ h)))))))))))))))
theorem inX3 : ∀ w ∈ wsX30, w ∈ lw_tbl := fun w h => wsL_law_in w (inlX3 w h)
theorem inlX4 : ∀ w ∈ wsX40, w ∈ wsL_law := fun _ h => List.mem_append_left _ (List.mem_append_left _ (List.mem_append_left _ (List.mem_append_left _ (List.mem_append_left _ (List.mem_append_left _ (List.mem_append_left _ (List.mem_append_left _ (List.mem_append_left _ (List.mem_append_right _ h)))))))))
theorem inX4 : ∀ w ∈ wsX40, w ∈ lw_tbl := fun w h => wsL_law_in w (inlX4 w h)
theorem inlX5 : ∀ w ∈ wsX50, w ∈ wsL_law := fun _ h => List.mem_append_left _ (List.mem_append_left _ (List.mem_append_left _ (List.mem_append_left _ (List.mem_append_left _ (List.mem_append_left _ (List.mem_append_left _ (List.mem_append_left _ (List.mem_append_left _ (List.mem_append_left _ (List.mem_append_left _ (List.mem_append_left _ (List.mem_append_left _ (List.mem_append_left _ (List.mem_append_right _ h))))))))))))))
theorem inX5 : ∀ w ∈ wsX50, w ∈ lw_tbl := fun w h => wsL_law_in w (inlX5 w h)
theorem inlX6 : ∀ w ∈ wsX60, w ∈ wsL_law := fun _ h => List.mem_append_left _ (List.mem_append_left _ (List.mem_append_left _ (List.mem_append_left _ (List.mem_append_left _ (List.mem_append_left _ (List.mem_append_left _ (List.mem_append_left _ (List.mem_append_right _ h))))))))
theorem inX6 : ∀ w ∈ wsX60, w ∈ lw_tbl := fun w h => wsL_law_in w (inlX6 w h)
theorem inlX7 : ∀ w ∈ wsX70, w ∈ wsL_law := fun _ h => List.mem_append_left _ (List.mem_append_left _ (List.mem_append_left _ (List.mem_append_left _ (List.mem_append_left _ (List.mem_append_left _ (List.mem_append_left _ (List.mem_append_left _ (List.mem_append_left _ (List.mem_append_left _ (List.mem_append_left _ (List.mem_append_left _ (List.mem_append_left _ (List.mem_append_left _ (List.mem_append_left _ (List.mem_append_left _ (List.mem_append_right _ h))))))))))))))))
theorem inX7 : ∀ w ∈ wsX70, w ∈ lw_tbl := fun w h => wsL_law_in w (inlX7 w h)
theorem inlX8 : ∀ w ∈ wsX80, w ∈ wsL_law := fun _ h => List.mem_append_left _ (List.mem_append_left _ (List.mem_append_left _ (List.mem_append_left _ (List.mem_append_left _ (List.mem_append_left _ (List.mem_append_left _ (List.mem_append_left _ (List.mem_append_left _ (List.mem_append_left _ (List.mem_append_left _ (List.mem_append_right _ h)))))))))))
theorem inX8 : ∀ w ∈ wsX80, w ∈ lw_tbl := fun w h => wsL_law_in w (inlX8 w h)
theorem inlX9 : ∀ w ∈ wsX90, w ∈ wsL_law := fun _ h => List.mem_append_left _ (List.mem_append_left _ (List.mem_append_left _ (List.mem_append_left _ (List.mem_append_left _ (List.mem_append_left _ (List.mem_append_left _ (List.mem_append_right _ h)))))))
theorem inX9 : ∀ w ∈ wsX90, w ∈ lw_tbl := fun w h => wsL_law_in w (inlX9 w h)
theorem inlX10 : ∀ w ∈ wsX100, w ∈ wsL_law := fun _ h => List.mem_append_left _ (List.mem_append_left _ (List.mem_append_left _ (List.mem_append_left _ (List.mem_append_left _ (List.mem_append_left _ (List.mem_append_left _ (List.mem_append_left _ (List.mem_append_left _ (List.mem_append_left _ (List.mem_append_left _ (List.mem_append_left _ (List.mem_append_left _ (List.mem_append_right _ h)))))))))))))
theorem inX10 : ∀ w ∈ wsX100, w ∈ lw_tbl := fun w h => wsL_law_in w (inlX10 w h)
theorem inlX11 : ∀ w ∈ wsX110, w ∈ wsL_law := fun _ h => List.mem_append_left _ (List.mem_append_left _ (List.mem_append_left _ (List.mem_append_left _ (List.mem_append_left _ (List.mem_append_left _ (List.mem_append_left _ (List.mem_append_left _ (List.mem_append_left _ (List.mem_append_left _ (List.mem_append_left _ (List.mem_append_left _ (List.mem_append_left _ (List.mem_append_left _ (List.mem_append_left _ (List.mem_append_left _ (List.mem_append_left _ (List.mem_append_left _ (List.mem_append_right _ h))))))))))))))))))
theorem inX11 : ∀ w ∈ wsX110, w ∈ lw_tbl := fun w h => wsL_law_in w (inlX11 w h)
theorem inlX12 : ∀ w ∈ wsX120, w ∈ wsL_law := fun _ h => List.mem_append_left _ (List.mem_append_left _ (List.mem_append_left _ (List.mem_append_left _ (List.mem_append_left _ (List.mem_append_left _ (List.mem_append_left _ (List.mem_append_left _ (List.mem_append_left _ (List.mem_append_left _ (List.mem_append_left _ (List.mem_append_left _ (List.mem_append_left _ (List.mem_append_left _ (List.mem_append_left _ (List.mem_append_left _ (List.mem_append_left _ (List.mem_append_right _ h)))))))))))))))))
theorem inX12 : ∀ w ∈ wsX120, w ∈ lw_tbl := fun w h => wsL_law_in w (inlX12 w h)
theorem inJx145de : ∀ w ∈ wsJx145de0, w ∈ lw_tbl := by decide +kernel
theorem inJ6 : ∀ w ∈ wsJ60, w ∈ lw_tbl := by decide +kernel
theorem inJ9 : ∀ w ∈ wsJ90, w ∈ lw_tbl := by decide +kernel
theorem inJ0 : ∀ w ∈ wsJ00, w ∈ lw_tbl := by decide +kernel
theorem inJ10 : ∀ w ∈ wsJ100, w ∈ lw_tbl := by decide +kernel
theorem inJ7 : ∀ w ∈ wsJ70, w ∈ lw_tbl := by decide +kernel
abbrev vwCl : List vw_C := [(RX0, TX0, 0), (RX1, TX1, 0), (RX2, TX2, 7), (RX3, TX3, 0), (RX4, TX4, 0), (RX5, TX5, 0), (RX6, TX6, 3), (RX7, TX7, 0), (RX8, TX8, 0), (RX9, TX9, 6), (RX10, TX10, 0), (RX11, TX11, 9), (RX12, TX12, 29)]
end
section
set_option maxRecDepth 20000 in
theorem ggX0_init_X3_init : GoodIn wsX0_init wsX3_init := goodIn_r _ [3, 4, 5, 6, 7, 8, 9] (by decide +kernel) (by decide +kernel)
set_option maxRecDepth 20000 in
theorem gX0_init_X3_init_n1 : GoodIn wsX0_init (wsX3_init) := ggX0_init_X3_init
theorem dX0_init_0 : decode cX0_init 0 = .ok (.aload_n 0, 1) := by decide +kernel
theorem dX0_init_1 : decode cX0_init 1 = .ok (.invokespecial 1, 3) := by decide +kernel
theorem dX0_init_4 : decode cX0_init 4 = .ok (.return_, 1) := by decide +kernel
set_option maxRecDepth 20000 in
theorem ggX0_fingersIn_X3_fingersIn : GoodIn wsX0_fingersIn wsX3_fingersIn := goodIn_r _ [6, 7, 8, 9, 10, 11, 12] (by decide +kernel) (by decide +kernel)
set_option maxRecDepth 20000 in
theorem gX0_fingersIn_X3_fingersIn_s7 : GoodIn wsX0_fingersIn (va_wsSU RX0 7 yX3_fingersIn wsX3_fingersIn) := goodIn_app (goodIn_of _ (by decide +kernel)) ggX0_fingersIn_X3_fingersIn
theorem dX0_fingersIn_0 : decode cX0_fingersIn 0 = .ok (.aload_n 0, 1) := by decide +kernel
theorem dX0_fingersIn_1 : decode cX0_fingersIn 1 = .ok (.iload_n 1, 1) := by decide +kernel
theorem dX0_fingersIn_2 : decode cX0_fingersIn 2 = .ok (.iload_n 2, 1) := by decide +kernel
theorem dX0_fingersIn_3 : decode cX0_fingersIn 3 = .ok (.invokespecial 7, 3) := by decide +kernel
theorem dX0_fingersIn_6 : decode cX0_fingersIn 6 = .ok (.iload_n 2, 1) := by decide +kernel
theorem dX0_fingersIn_7 : decode cX0_fingersIn 7 = .ok (.iadd, 1) := by decide +kernel
theorem dX0_fingersIn_8 : decode cX0_fingersIn 8 = .ok (.ireturn, 1) := by decide +kernel
set_option maxRecDepth 20000 in
theorem ggX0_light_X3_light : GoodIn wsX0_light wsX3_light := goodIn_r _ [6, 7, 8, 9, 10, 11, 12] (by decide +kernel) (by decide +kernel)
set_option maxRecDepth 20000 in
theorem gX0_light_X3_light_s11 : GoodIn wsX0_light (va_wsSU RX0 11 yX3_light wsX3_light) := goodIn_app (goodIn_of _ (by decide +kernel)) ggX0_light_X3_light
theorem dX0_light_0 : decode cX0_light 0 = .ok (.iconst 2, 1) := by decide +kernel
theorem dX0_light_1 : decode cX0_light 1 = .ok (.aload_n 0, 1) := by decide +kernel
theorem dX0_light_2 : decode cX0_light 2 = .ok (.iload_n 1, 1) := by decide +kernel
theorem dX0_light_3 : decode cX0_light 3 = .ok (.invokespecial 11, 3) := by decide +kernel
theorem dX0_light_6 : decode cX0_light 6 = .ok (.imul, 1) := by decide +kernel
theorem dX0_light_7 : decode cX0_light 7 = .ok (.ireturn, 1) := by decide +kernel
set_option maxRecDepth 20000 in
theorem ggX0_tollWith_X3_tollWith : GoodIn wsX0_tollWith wsX3_tollWith := goodIn_r _ [6, 7, 8, 9, 10, 11, 12] (by decide +kernel) (by decide +kernel)
set_option maxRecDepth 20000 in
theorem gX0_tollWith_X3_tollWith_s15 : GoodIn wsX0_tollWith (va_wsSU RX0 15 yX3_tollWith wsX3_tollWith) := goodIn_app (goodIn_of _ (by decide +kernel)) ggX0_tollWith_X3_tollWith
theorem dX0_tollWith_0 : decode cX0_tollWith 0 = .ok (.aload_n 0, 1) := by decide +kernel
theorem dX0_tollWith_1 : decode cX0_tollWith 1 = .ok (.iload_n 1, 1) := by decide +kernel
theorem dX0_tollWith_2 : decode cX0_tollWith 2 = .ok (.invokespecial 15, 3) := by decide +kernel
theorem dX0_tollWith_5 : decode cX0_tollWith 5 = .ok (.bipush 7, 2) := by decide +kernel
theorem dX0_tollWith_7 : decode cX0_tollWith 7 = .ok (.iadd, 1) := by decide +kernel
theorem dX0_tollWith_8 : decode cX0_tollWith 8 = .ok (.ireturn, 1) := by decide +kernel
set_option maxRecDepth 20000 in
theorem ggX1_init_X3_init : GoodIn wsX1_init wsX3_init := goodIn_r _ [3, 4, 5, 6, 7, 8, 9] (by decide +kernel) (by decide +kernel)
set_option maxRecDepth 20000 in
theorem gX1_init_X3_init_n1 : GoodIn wsX1_init (wsX3_init) := ggX1_init_X3_init
theorem dX1_init_0 : decode cX1_init 0 = .ok (.aload_n 0, 1) := by decide +kernel
theorem dX1_init_1 : decode cX1_init 1 = .ok (.invokespecial 1, 3) := by decide +kernel
theorem dX1_init_4 : decode cX1_init 4 = .ok (.return_, 1) := by decide +kernel
set_option maxRecDepth 20000 in
theorem ggX1_melts_X3_melts : GoodIn wsX1_melts wsX3_melts := goodIn_r _ [6, 7, 8, 9, 10, 11, 12] (by decide +kernel) (by decide +kernel)
set_option maxRecDepth 20000 in
theorem gX1_melts_X3_melts_s7 : GoodIn wsX1_melts (va_wsSU RX1 7 yX3_melts wsX3_melts) := goodIn_app (goodIn_of _ (by decide +kernel)) ggX1_melts_X3_melts
theorem dX1_melts_0 : decode cX1_melts 0 = .ok (.aload_n 0, 1) := by decide +kernel
theorem dX1_melts_1 : decode cX1_melts 1 = .ok (.iload_n 1, 1) := by decide +kernel
theorem dX1_melts_2 : decode cX1_melts 2 = .ok (.invokespecial 7, 3) := by decide +kernel
theorem dX1_melts_5 : decode cX1_melts 5 = .ok (.iconst 1, 1) := by decide +kernel
theorem dX1_melts_6 : decode cX1_melts 6 = .ok (.iadd, 1) := by decide +kernel
theorem dX1_melts_7 : decode cX1_melts 7 = .ok (.ireturn, 1) := by decide +kernel
set_option maxRecDepth 20000 in
theorem ggX1_light_X3_light : GoodIn wsX1_light wsX3_light := goodIn_r _ [6, 7, 8, 9, 10, 11, 12] (by decide +kernel) (by decide +kernel)
set_option maxRecDepth 20000 in
theorem gX1_light_X3_light_s11 : GoodIn wsX1_light (va_wsSU RX1 11 yX3_light wsX3_light) := goodIn_app (goodIn_of _ (by decide +kernel)) ggX1_light_X3_light
theorem dX1_light_0 : decode cX1_light 0 = .ok (.aload_n 0, 1) := by decide +kernel
theorem dX1_light_1 : decode cX1_light 1 = .ok (.iload_n 1, 1) := by decide +kernel
theorem dX1_light_2 : decode cX1_light 2 = .ok (.invokespecial 11, 3) := by decide +kernel
theorem dX1_light_5 : decode cX1_light 5 = .ok (.iload_n 1, 1) := by decide +kernel
theorem dX1_light_6 : decode cX1_light 6 = .ok (.isub, 1) := by decide +kernel
theorem dX1_light_7 : decode cX1_light 7 = .ok (.ireturn, 1) := by decide +kernel
set_option maxRecDepth 20000 in
theorem ggX1_tollWith_X3_tollWith : GoodIn wsX1_tollWith wsX3_tollWith := goodIn_r _ [6, 7, 8, 9, 10, 11, 12] (by decide +kernel) (by decide +kernel)
set_option maxRecDepth 20000 in
theorem gX1_tollWith_X3_tollWith_s14 : GoodIn wsX1_tollWith (va_wsSU RX1 14 yX3_tollWith wsX3_tollWith) := goodIn_app (goodIn_of _ (by decide +kernel)) ggX1_tollWith_X3_tollWith
theorem dX1_tollWith_0 : decode cX1_tollWith 0 = .ok (.iconst 2, 1) := by decide +kernel
theorem dX1_tollWith_1 : decode cX1_tollWith 1 = .ok (.aload_n 0, 1) := by decide +kernel
theorem dX1_tollWith_2 : decode cX1_tollWith 2 = .ok (.iload_n 1, 1) := by decide +kernel
theorem dX1_tollWith_3 : decode cX1_tollWith 3 = .ok (.invokespecial 14, 3) := by decide +kernel
theorem dX1_tollWith_6 : decode cX1_tollWith 6 = .ok (.imul, 1) := by decide +kernel
theorem dX1_tollWith_7 : decode cX1_tollWith 7 = .ok (.ireturn, 1) := by decide +kernel
theorem dX1_fail_0 : decode cX1_fail 0 = .ok (.new 17, 3) := by decide +kernel
theorem dX1_fail_3 : decode cX1_fail 3 = .ok (.dup, 1) := by decide +kernel
theorem dX1_fail_4 : decode cX1_fail 4 = .ok (.ldc 19, 2) := by decide +kernel
theorem dX1_fail_6 : decode cX1_fail 6 = .ok (.invokespecial 21, 3) := by decide +kernel
theorem dX1_fail_9 : decode cX1_fail 9 = .ok (.athrow, 1) := by decide +kernel
theorem dX2_init_0 : decode cX2_init 0 = .ok (.aload_n 0, 1) := by decide +kernel
theorem dX2_init_1 : decode cX2_init 1 = .ok (.invokespecial 3, 3) := by decide +kernel
theorem dX2_init_4 : decode cX2_init 4 = .ok (.aload_n 0, 1) := by decide +kernel
theorem dX2_init_5 : decode cX2_init 5 = .ok (.bipush 8, 2) := by decide +kernel
theorem dX2_init_7 : decode cX2_init 7 = .ok (.newarray .int, 2) := by decide +kernel
theorem dX2_init_9 : decode cX2_init 9 = .ok (.putfield 9, 3) := by decide +kernel
theorem dX2_init_12 : decode cX2_init 12 = .ok (.aload_n 0, 1) := by decide +kernel
theorem dX2_init_13 : decode cX2_init 13 = .ok (.bipush 8, 2) := by decide +kernel
theorem dX2_init_15 : decode cX2_init 15 = .ok (.newarray .int, 2) := by decide +kernel
theorem dX2_init_17 : decode cX2_init 17 = .ok (.putfield 15, 3) := by decide +kernel
theorem dX2_init_20 : decode cX2_init 20 = .ok (.aload_n 0, 1) := by decide +kernel
theorem dX2_init_21 : decode cX2_init 21 = .ok (.bipush 8, 2) := by decide +kernel
theorem dX2_init_23 : decode cX2_init 23 = .ok (.newarray .int, 2) := by decide +kernel
theorem dX2_init_25 : decode cX2_init 25 = .ok (.putfield 18, 3) := by decide +kernel
theorem dX2_init_28 : decode cX2_init 28 = .ok (.aload_n 0, 1) := by decide +kernel
theorem dX2_init_29 : decode cX2_init 29 = .ok (.bipush 8, 2) := by decide +kernel
theorem dX2_init_31 : decode cX2_init 31 = .ok (.newarray .int, 2) := by decide +kernel
theorem dX2_init_33 : decode cX2_init 33 = .ok (.putfield 21, 3) := by decide +kernel
theorem dX2_init_36 : decode cX2_init 36 = .ok (.aload_n 0, 1) := by decide +kernel
theorem dX2_init_37 : decode cX2_init 37 = .ok (.bipush 8, 2) := by decide +kernel
theorem dX2_init_39 : decode cX2_init 39 = .ok (.newarray .int, 2) := by decide +kernel
theorem dX2_init_41 : decode cX2_init 41 = .ok (.putfield 24, 3) := by decide +kernel
theorem dX2_init_44 : decode cX2_init 44 = .ok (.aload_n 0, 1) := by decide +kernel
theorem dX2_init_45 : decode cX2_init 45 = .ok (.bipush 8, 2) := by decide +kernel
theorem dX2_init_47 : decode cX2_init 47 = .ok (.newarray .int, 2) := by decide +kernel
theorem dX2_init_49 : decode cX2_init 49 = .ok (.putfield 27, 3) := by decide +kernel
theorem dX2_init_52 : decode cX2_init 52 = .ok (.return_, 1) := by decide +kernel
theorem dX2_has_0 : decode cX2_has 0 = .ok (.iload_n 1, 1) := by decide +kernel
theorem dX2_has_1 : decode cX2_has 1 = .ok (.ifCond .lt 21, 3) := by decide +kernel
theorem dX2_has_4 : decode cX2_has 4 = .ok (.iload_n 1, 1) := by decide +kernel
theorem dX2_has_5 : decode cX2_has 5 = .ok (.aload_n 0, 1) := by decide +kernel
theorem dX2_has_6 : decode cX2_has 6 = .ok (.getfield 30, 3) := by decide +kernel
theorem dX2_has_9 : decode cX2_has 9 = .ok (.if_icmp .ge 13, 3) := by decide +kernel
theorem dX2_has_12 : decode cX2_has 12 = .ok (.iload_n 1, 1) := by decide +kernel
theorem dX2_has_13 : decode cX2_has 13 = .ok (.bipush 8, 2) := by decide +kernel
theorem dX2_has_15 : decode cX2_has 15 = .ok (.if_icmp .ge 7, 3) := by decide +kernel
theorem dX2_has_18 : decode cX2_has 18 = .ok (.iconst 1, 1) := by decide +kernel
theorem dX2_has_19 : decode cX2_has 19 = .ok (.goto 4, 3) := by decide +kernel
theorem dX2_has_22 : decode cX2_has 22 = .ok (.iconst 0, 1) := by decide +kernel
theorem dX2_has_23 : decode cX2_has 23 = .ok (.ireturn, 1) := by decide +kernel
set_option maxRecDepth 20000 in
theorem ggX2_oathAt_X2_has : GoodIn wsX2_oathAt wsX2_has := goodIn_r _ [6, 7, 8, 9, 10, 11, 12, 13, 14] (by decide +kernel) (by decide +kernel)
set_option maxRecDepth 20000 in
theorem gX2_oathAt_X2_has : GoodIn wsX2_oathAt (wsV RX2 34 RX2 yX2_has wsX2_has) := goodIn_app (goodIn_of _ (by decide +kernel)) ggX2_oathAt_X2_has
theorem dX2_oathAt_0 : decode cX2_oathAt 0 = .ok (.aload_n 0, 1) := by decide +kernel
theorem dX2_oathAt_1 : decode cX2_oathAt 1 = .ok (.iload_n 1, 1) := by decide +kernel
theorem dX2_oathAt_2 : decode cX2_oathAt 2 = .ok (.invokevirtual 34, 3) := by decide +kernel
theorem dX2_oathAt_5 : decode cX2_oathAt 5 = .ok (.ifCond .eq 12, 3) := by decide +kernel
theorem dX2_oathAt_8 : decode cX2_oathAt 8 = .ok (.aload_n 0, 1) := by decide +kernel
theorem dX2_oathAt_9 : decode cX2_oathAt 9 = .ok (.getfield 15, 3) := by decide +kernel
theorem dX2_oathAt_12 : decode cX2_oathAt 12 = .ok (.iload_n 1, 1) := by decide +kernel
theorem dX2_oathAt_13 : decode cX2_oathAt 13 = .ok (.iaload, 1) := by decide +kernel
theorem dX2_oathAt_14 : decode cX2_oathAt 14 = .ok (.goto 4, 3) := by decide +kernel
theorem dX2_oathAt_17 : decode cX2_oathAt 17 = .ok (.iconst 0, 1) := by decide +kernel
theorem dX2_oathAt_18 : decode cX2_oathAt 18 = .ok (.ireturn, 1) := by decide +kernel
set_option maxRecDepth 20000 in
theorem ggX2_winterAt_X2_has : GoodIn wsX2_winterAt wsX2_has := goodIn_r _ [6, 7, 8, 9, 10, 11, 12, 13, 14] (by decide +kernel) (by decide +kernel)
set_option maxRecDepth 20000 in
theorem gX2_winterAt_X2_has : GoodIn wsX2_winterAt (wsV RX2 34 RX2 yX2_has wsX2_has) := goodIn_app (goodIn_of _ (by decide +kernel)) ggX2_winterAt_X2_has
theorem dX2_winterAt_0 : decode cX2_winterAt 0 = .ok (.aload_n 0, 1) := by decide +kernel
theorem dX2_winterAt_1 : decode cX2_winterAt 1 = .ok (.iload_n 1, 1) := by decide +kernel
theorem dX2_winterAt_2 : decode cX2_winterAt 2 = .ok (.invokevirtual 34, 3) := by decide +kernel
theorem dX2_winterAt_5 : decode cX2_winterAt 5 = .ok (.ifCond .eq 12, 3) := by decide +kernel
theorem dX2_winterAt_8 : decode cX2_winterAt 8 = .ok (.aload_n 0, 1) := by decide +kernel
theorem dX2_winterAt_9 : decode cX2_winterAt 9 = .ok (.getfield 18, 3) := by decide +kernel
theorem dX2_winterAt_12 : decode cX2_winterAt 12 = .ok (.iload_n 1, 1) := by decide +kernel
theorem dX2_winterAt_13 : decode cX2_winterAt 13 = .ok (.iaload, 1) := by decide +kernel
theorem dX2_winterAt_14 : decode cX2_winterAt 14 = .ok (.goto 4, 3) := by decide +kernel
theorem dX2_winterAt_17 : decode cX2_winterAt 17 = .ok (.iconst 0, 1) := by decide +kernel
theorem dX2_winterAt_18 : decode cX2_winterAt 18 = .ok (.ireturn, 1) := by decide +kernel
set_option maxRecDepth 20000 in
theorem ggX2_thickAt_X2_has : GoodIn wsX2_thickAt wsX2_has := goodIn_r _ [6, 7, 8, 9, 10, 11, 12, 13, 14] (by decide +kernel) (by decide +kernel)
set_option maxRecDepth 20000 in
theorem gX2_thickAt_X2_has : GoodIn wsX2_thickAt (wsV RX2 34 RX2 yX2_has wsX2_has) := goodIn_app (goodIn_of _ (by decide +kernel)) ggX2_thickAt_X2_has
theorem dX2_thickAt_0 : decode cX2_thickAt 0 = .ok (.aload_n 0, 1) := by decide +kernel
theorem dX2_thickAt_1 : decode cX2_thickAt 1 = .ok (.iload_n 1, 1) := by decide +kernel
theorem dX2_thickAt_2 : decode cX2_thickAt 2 = .ok (.invokevirtual 34, 3) := by decide +kernel
theorem dX2_thickAt_5 : decode cX2_thickAt 5 = .ok (.ifCond .eq 12, 3) := by decide +kernel
theorem dX2_thickAt_8 : decode cX2_thickAt 8 = .ok (.aload_n 0, 1) := by decide +kernel
theorem dX2_thickAt_9 : decode cX2_thickAt 9 = .ok (.getfield 21, 3) := by decide +kernel
theorem dX2_thickAt_12 : decode cX2_thickAt 12 = .ok (.iload_n 1, 1) := by decide +kernel
theorem dX2_thickAt_13 : decode cX2_thickAt 13 = .ok (.iaload, 1) := by decide +kernel
theorem dX2_thickAt_14 : decode cX2_thickAt 14 = .ok (.goto 4, 3) := by decide +kernel
theorem dX2_thickAt_17 : decode cX2_thickAt 17 = .ok (.iconst 0, 1) := by decide +kernel
theorem dX2_thickAt_18 : decode cX2_thickAt 18 = .ok (.ireturn, 1) := by decide +kernel
set_option maxRecDepth 20000 in
theorem ggX2_meltsAt_X2_has : GoodIn wsX2_meltsAt wsX2_has := goodIn_r _ [6, 7, 8, 9, 10, 11, 12, 13, 14] (by decide +kernel) (by decide +kernel)
set_option maxRecDepth 20000 in
theorem gX2_meltsAt_X2_has : GoodIn wsX2_meltsAt (wsV RX2 34 RX2 yX2_has wsX2_has) := goodIn_app (goodIn_of _ (by decide +kernel)) ggX2_meltsAt_X2_has
theorem dX2_meltsAt_0 : decode cX2_meltsAt 0 = .ok (.aload_n 0, 1) := by decide +kernel
theorem dX2_meltsAt_1 : decode cX2_meltsAt 1 = .ok (.iload_n 1, 1) := by decide +kernel
theorem dX2_meltsAt_2 : decode cX2_meltsAt 2 = .ok (.invokevirtual 34, 3) := by decide +kernel
theorem dX2_meltsAt_5 : decode cX2_meltsAt 5 = .ok (.ifCond .eq 12, 3) := by decide +kernel
theorem dX2_meltsAt_8 : decode cX2_meltsAt 8 = .ok (.aload_n 0, 1) := by decide +kernel
theorem dX2_meltsAt_9 : decode cX2_meltsAt 9 = .ok (.getfield 24, 3) := by decide +kernel
theorem dX2_meltsAt_12 : decode cX2_meltsAt 12 = .ok (.iload_n 1, 1) := by decide +kernel
theorem dX2_meltsAt_13 : decode cX2_meltsAt 13 = .ok (.iaload, 1) := by decide +kernel
theorem dX2_meltsAt_14 : decode cX2_meltsAt 14 = .ok (.goto 4, 3) := by decide +kernel
theorem dX2_meltsAt_17 : decode cX2_meltsAt 17 = .ok (.iconst 0, 1) := by decide +kernel
theorem dX2_meltsAt_18 : decode cX2_meltsAt 18 = .ok (.ireturn, 1) := by decide +kernel
set_option maxRecDepth 20000 in
theorem ggX2_lightAt_X2_has : GoodIn wsX2_lightAt wsX2_has := goodIn_r _ [6, 7, 8, 9, 10, 11, 12, 13, 14] (by decide +kernel) (by decide +kernel)
set_option maxRecDepth 20000 in
theorem gX2_lightAt_X2_has : GoodIn wsX2_lightAt (wsV RX2 34 RX2 yX2_has wsX2_has) := goodIn_app (goodIn_of _ (by decide +kernel)) ggX2_lightAt_X2_has
theorem dX2_lightAt_0 : decode cX2_lightAt 0 = .ok (.aload_n 0, 1) := by decide +kernel
theorem dX2_lightAt_1 : decode cX2_lightAt 1 = .ok (.iload_n 1, 1) := by decide +kernel
theorem dX2_lightAt_2 : decode cX2_lightAt 2 = .ok (.invokevirtual 34, 3) := by decide +kernel
theorem dX2_lightAt_5 : decode cX2_lightAt 5 = .ok (.ifCond .eq 12, 3) := by decide +kernel
theorem dX2_lightAt_8 : decode cX2_lightAt 8 = .ok (.aload_n 0, 1) := by decide +kernel
theorem dX2_lightAt_9 : decode cX2_lightAt 9 = .ok (.getfield 27, 3) := by decide +kernel
theorem dX2_lightAt_12 : decode cX2_lightAt 12 = .ok (.iload_n 1, 1) := by decide +kernel
theorem dX2_lightAt_13 : decode cX2_lightAt 13 = .ok (.iaload, 1) := by decide +kernel
theorem dX2_lightAt_14 : decode cX2_lightAt 14 = .ok (.goto 4, 3) := by decide +kernel
theorem dX2_lightAt_17 : decode cX2_lightAt 17 = .ok (.iconst 0, 1) := by decide +kernel
theorem dX2_lightAt_18 : decode cX2_lightAt 18 = .ok (.ireturn, 1) := by decide +kernel
set_option maxRecDepth 20000 in
theorem ggX2_depthAt_X2_thickAt : GoodIn wsX2_depthAt wsX2_thickAt := goodIn_r _ [6, 7, 8, 9, 10, 5, 11, 1, 12, 13, 14, 15, 16, 17, 18] (by decide +kernel) (by decide +kernel)
set_option maxRecDepth 20000 in
theorem gX2_depthAt_X2_thickAt : GoodIn wsX2_depthAt (wsV RX2 38 RX2 yX2_thickAt wsX2_thickAt) := goodIn_app (goodIn_of _ (by decide +kernel)) ggX2_depthAt_X2_thickAt
theorem dX2_depthAt_0 : decode cX2_depthAt 0 = .ok (.iconst 0, 1) := by decide +kernel
theorem dX2_depthAt_1 : decode cX2_depthAt 1 = .ok (.istore_n 2, 1) := by decide +kernel
theorem dX2_depthAt_2 : decode cX2_depthAt 2 = .ok (.aload_n 0, 1) := by decide +kernel
theorem dX2_depthAt_3 : decode cX2_depthAt 3 = .ok (.getfield 30, 3) := by decide +kernel
theorem dX2_depthAt_6 : decode cX2_depthAt 6 = .ok (.iconst 1, 1) := by decide +kernel
theorem dX2_depthAt_7 : decode cX2_depthAt 7 = .ok (.isub, 1) := by decide +kernel
theorem dX2_depthAt_8 : decode cX2_depthAt 8 = .ok (.istore_n 3, 1) := by decide +kernel
theorem dX2_depthAt_9 : decode cX2_depthAt 9 = .ok (.iload_n 3, 1) := by decide +kernel
theorem dX2_depthAt_10 : decode cX2_depthAt 10 = .ok (.iload_n 1, 1) := by decide +kernel
theorem dX2_depthAt_11 : decode cX2_depthAt 11 = .ok (.if_icmp .le 17, 3) := by decide +kernel
theorem dX2_depthAt_14 : decode cX2_depthAt 14 = .ok (.iload_n 2, 1) := by decide +kernel
theorem dX2_depthAt_15 : decode cX2_depthAt 15 = .ok (.aload_n 0, 1) := by decide +kernel
theorem dX2_depthAt_16 : decode cX2_depthAt 16 = .ok (.iload_n 3, 1) := by decide +kernel
theorem dX2_depthAt_17 : decode cX2_depthAt 17 = .ok (.invokevirtual 38, 3) := by decide +kernel
theorem dX2_depthAt_20 : decode cX2_depthAt 20 = .ok (.iadd, 1) := by decide +kernel
theorem dX2_depthAt_21 : decode cX2_depthAt 21 = .ok (.istore_n 2, 1) := by decide +kernel
theorem dX2_depthAt_22 : decode cX2_depthAt 22 = .ok (.iinc 3 (-1), 3) := by decide +kernel
theorem dX2_depthAt_25 : decode cX2_depthAt 25 = .ok (.goto (-16), 3) := by decide +kernel
theorem dX2_depthAt_28 : decode cX2_depthAt 28 = .ok (.iload_n 2, 1) := by decide +kernel
theorem dX2_depthAt_29 : decode cX2_depthAt 29 = .ok (.ireturn, 1) := by decide +kernel
set_option maxRecDepth 20000 in
theorem ggX2_ice_X2_depthAt : GoodIn wsX2_ice wsX2_depthAt := goodIn_r _ [5, 6, 7, 8, 9, 4, 10, 11, 12, 13, 14, 15, 16, 17, 18, 19, 20, 21, 22] (by decide +kernel) (by decide +kernel)
set_option maxRecDepth 20000 in
theorem gX2_ice_X2_depthAt : GoodIn wsX2_ice (wsV RX2 42 RX2 yX2_depthAt wsX2_depthAt) := goodIn_app (goodIn_of _ (by decide +kernel)) ggX2_ice_X2_depthAt
theorem dX2_ice_0 : decode cX2_ice 0 = .ok (.aload_n 0, 1) := by decide +kernel
theorem dX2_ice_1 : decode cX2_ice 1 = .ok (.iconst (-1), 1) := by decide +kernel
theorem dX2_ice_2 : decode cX2_ice 2 = .ok (.invokevirtual 42, 3) := by decide +kernel
theorem dX2_ice_5 : decode cX2_ice 5 = .ok (.ireturn, 1) := by decide +kernel
set_option maxRecDepth 20000 in
theorem ggX2_canRead_X2_has : GoodIn wsX2_canRead wsX2_has := goodIn_r _ [5, 6, 21, 22, 23, 24, 25, 26, 27] (by decide +kernel) (by decide +kernel)
set_option maxRecDepth 20000 in
theorem gX2_canRead_X2_has : GoodIn wsX2_canRead (wsV RX2 34 RX2 yX2_has wsX2_has) := goodIn_app (goodIn_of _ (by decide +kernel)) ggX2_canRead_X2_has
set_option maxRecDepth 20000 in
theorem ggX2_canRead_X2_depthAt : GoodIn wsX2_canRead wsX2_depthAt := goodIn_r _ [10, 6, 11, 12, 13, 4, 14, 15, 1, 2, 3, 5, 21, 22, 23, 24, 25, 26, 27] (by decide +kernel) (by decide +kernel)
set_option maxRecDepth 20000 in
theorem gX2_canRead_X2_depthAt : GoodIn wsX2_canRead (wsV RX2 42 RX2 yX2_depthAt wsX2_depthAt) := goodIn_app (goodIn_of _ (by decide +kernel)) ggX2_canRead_X2_depthAt
set_option maxRecDepth 20000 in
theorem ggX2_canRead_X2_lightAt : GoodIn wsX2_canRead wsX2_lightAt := goodIn_r _ [19, 20, 1, 2, 3, 4, 5, 6, 21, 22, 23, 24, 25, 26, 27] (by decide +kernel) (by decide +kernel)
set_option maxRecDepth 20000 in
theorem gX2_canRead_X2_lightAt : GoodIn wsX2_canRead (wsV RX2 45 RX2 yX2_lightAt wsX2_lightAt) := goodIn_app (goodIn_of _ (by decide +kernel)) ggX2_canRead_X2_lightAt
theorem dX2_canRead_0 : decode cX2_canRead 0 = .ok (.aload_n 0, 1) := by decide +kernel
theorem dX2_canRead_1 : decode cX2_canRead 1 = .ok (.iload_n 1, 1) := by decide +kernel
theorem dX2_canRead_2 : decode cX2_canRead 2 = .ok (.invokevirtual 34, 3) := by decide +kernel
theorem dX2_canRead_5 : decode cX2_canRead 5 = .ok (.ifCond .eq 20, 3) := by decide +kernel
theorem dX2_canRead_8 : decode cX2_canRead 8 = .ok (.aload_n 0, 1) := by decide +kernel
theorem dX2_canRead_9 : decode cX2_canRead 9 = .ok (.iload_n 1, 1) := by decide +kernel
theorem dX2_canRead_10 : decode cX2_canRead 10 = .ok (.invokevirtual 42, 3) := by decide +kernel
theorem dX2_canRead_13 : decode cX2_canRead 13 = .ok (.aload_n 0, 1) := by decide +kernel
theorem dX2_canRead_14 : decode cX2_canRead 14 = .ok (.iload_n 1, 1) := by decide +kernel
theorem dX2_canRead_15 : decode cX2_canRead 15 = .ok (.invokevirtual 45, 3) := by decide +kernel
theorem dX2_canRead_18 : decode cX2_canRead 18 = .ok (.if_icmp .gt 7, 3) := by decide +kernel
theorem dX2_canRead_21 : decode cX2_canRead 21 = .ok (.iconst 1, 1) := by decide +kernel
theorem dX2_canRead_22 : decode cX2_canRead 22 = .ok (.goto 4, 3) := by decide +kernel
theorem dX2_canRead_25 : decode cX2_canRead 25 = .ok (.iconst 0, 1) := by decide +kernel
theorem dX2_canRead_26 : decode cX2_canRead 26 = .ok (.ireturn, 1) := by decide +kernel
set_option maxRecDepth 20000 in
theorem ggX2_tellOf_X2_has : GoodIn wsX2_tellOf wsX2_has := goodIn_r _ [6, 7, 36, 37, 38, 39, 40, 41, 42] (by decide +kernel) (by decide +kernel)
set_option maxRecDepth 20000 in
theorem gX2_tellOf_X2_has : GoodIn wsX2_tellOf (wsV RX2 34 RX2 yX2_has wsX2_has) := goodIn_app (goodIn_of _ (by decide +kernel)) ggX2_tellOf_X2_has
set_option maxRecDepth 20000 in
theorem ggX2_tellOf_X2_oathAt : GoodIn wsX2_tellOf wsX2_oathAt := goodIn_r _ [11, 12, 2, 3, 4, 5, 6, 7, 36, 37, 38, 39, 40, 41, 42] (by decide +kernel) (by decide +kernel)
set_option maxRecDepth 20000 in
theorem gX2_tellOf_X2_oathAt : GoodIn wsX2_tellOf (wsV RX2 48 RX2 yX2_oathAt wsX2_oathAt) := goodIn_app (goodIn_of _ (by decide +kernel)) ggX2_tellOf_X2_oathAt
set_option maxRecDepth 20000 in
theorem ggX2_tellOf_X2_winterAt : GoodIn wsX2_tellOf wsX2_winterAt := goodIn_r _ [16, 17, 2, 3, 4, 5, 6, 7, 36, 37, 38, 39, 40, 41, 42] (by decide +kernel) (by decide +kernel)
set_option maxRecDepth 20000 in
theorem gX2_tellOf_X2_winterAt : GoodIn wsX2_tellOf (wsV RX2 51 RX2 yX2_winterAt wsX2_winterAt) := goodIn_app (goodIn_of _ (by decide +kernel)) ggX2_tellOf_X2_winterAt
set_option maxRecDepth 20000 in
theorem ggX2_tellOf_X2_thickAt : GoodIn wsX2_tellOf wsX2_thickAt := goodIn_r _ [21, 22, 2, 3, 4, 5, 6, 7, 36, 37, 38, 39, 40, 41, 42] (by decide +kernel) (by decide +kernel)
set_option maxRecDepth 20000 in
theorem gX2_tellOf_X2_thickAt : GoodIn wsX2_tellOf (wsV RX2 38 RX2 yX2_thickAt wsX2_thickAt) := goodIn_app (goodIn_of _ (by decide +kernel)) ggX2_tellOf_X2_thickAt
set_option maxRecDepth 20000 in
theorem ggX2_tellOf_X2_depthAt : GoodIn wsX2_tellOf wsX2_depthAt := goodIn_r _ [26, 7, 18, 19, 20, 5, 21, 22, 2, 3, 4, 6, 36, 37, 38, 39, 40, 41, 42] (by decide +kernel) (by decide +kernel)
set_option maxRecDepth 20000 in
theorem gX2_tellOf_X2_depthAt : GoodIn wsX2_tellOf (wsV RX2 42 RX2 yX2_depthAt wsX2_depthAt) := goodIn_app (goodIn_of _ (by decide +kernel)) ggX2_tellOf_X2_depthAt
set_option maxRecDepth 20000 in
theorem ggX2_tellOf_X2_canRead : GoodIn wsX2_tellOf wsX2_canRead := goodIn_r _ [30, 2, 3, 4, 5, 6, 7, 23, 24, 25, 26, 18, 19, 20, 21, 22, 31, 32, 33, 34, 35, 36, 37, 38, 39, 40, 41, 42] (by decide +kernel) (by decide +kernel)
set_option maxRecDepth 20000 in
theorem gX2_tellOf_X2_canRead : GoodIn wsX2_tellOf (wsV RX2 54 RX2 yX2_canRead wsX2_canRead) := goodIn_app (goodIn_of _ (by decide +kernel)) ggX2_tellOf_X2_canRead
theorem dX2_tellOf_0 : decode cX2_tellOf 0 = .ok (.iload_n 2, 1) := by decide +kernel
theorem dX2_tellOf_1 : decode cX2_tellOf 1 = .ok (.tableswitch 96 0 5 #[39, 58, 64, 70, 76, 82], 39) := by decide +kernel
theorem dX2_tellOf_40 : decode cX2_tellOf 40 = .ok (.aload_n 0, 1) := by decide +kernel
theorem dX2_tellOf_41 : decode cX2_tellOf 41 = .ok (.iload_n 1, 1) := by decide +kernel
theorem dX2_tellOf_42 : decode cX2_tellOf 42 = .ok (.invokevirtual 34, 3) := by decide +kernel
theorem dX2_tellOf_45 : decode cX2_tellOf 45 = .ok (.ifCond .eq 12, 3) := by decide +kernel
theorem dX2_tellOf_48 : decode cX2_tellOf 48 = .ok (.aload_n 0, 1) := by decide +kernel
theorem dX2_tellOf_49 : decode cX2_tellOf 49 = .ok (.getfield 9, 3) := by decide +kernel
theorem dX2_tellOf_52 : decode cX2_tellOf 52 = .ok (.iload_n 1, 1) := by decide +kernel
theorem dX2_tellOf_53 : decode cX2_tellOf 53 = .ok (.iaload, 1) := by decide +kernel
theorem dX2_tellOf_54 : decode cX2_tellOf 54 = .ok (.goto 4, 3) := by decide +kernel
theorem dX2_tellOf_57 : decode cX2_tellOf 57 = .ok (.iconst 0, 1) := by decide +kernel
theorem dX2_tellOf_58 : decode cX2_tellOf 58 = .ok (.ireturn, 1) := by decide +kernel
theorem dX2_tellOf_59 : decode cX2_tellOf 59 = .ok (.aload_n 0, 1) := by decide +kernel
theorem dX2_tellOf_60 : decode cX2_tellOf 60 = .ok (.iload_n 1, 1) := by decide +kernel
theorem dX2_tellOf_61 : decode cX2_tellOf 61 = .ok (.invokevirtual 48, 3) := by decide +kernel
theorem dX2_tellOf_64 : decode cX2_tellOf 64 = .ok (.ireturn, 1) := by decide +kernel
theorem dX2_tellOf_65 : decode cX2_tellOf 65 = .ok (.aload_n 0, 1) := by decide +kernel
theorem dX2_tellOf_66 : decode cX2_tellOf 66 = .ok (.iload_n 1, 1) := by decide +kernel
theorem dX2_tellOf_67 : decode cX2_tellOf 67 = .ok (.invokevirtual 51, 3) := by decide +kernel
theorem dX2_tellOf_70 : decode cX2_tellOf 70 = .ok (.ireturn, 1) := by decide +kernel
theorem dX2_tellOf_71 : decode cX2_tellOf 71 = .ok (.aload_n 0, 1) := by decide +kernel
theorem dX2_tellOf_72 : decode cX2_tellOf 72 = .ok (.iload_n 1, 1) := by decide +kernel
theorem dX2_tellOf_73 : decode cX2_tellOf 73 = .ok (.invokevirtual 38, 3) := by decide +kernel
theorem dX2_tellOf_76 : decode cX2_tellOf 76 = .ok (.ireturn, 1) := by decide +kernel
theorem dX2_tellOf_77 : decode cX2_tellOf 77 = .ok (.aload_n 0, 1) := by decide +kernel
theorem dX2_tellOf_78 : decode cX2_tellOf 78 = .ok (.iload_n 1, 1) := by decide +kernel
theorem dX2_tellOf_79 : decode cX2_tellOf 79 = .ok (.invokevirtual 42, 3) := by decide +kernel
theorem dX2_tellOf_82 : decode cX2_tellOf 82 = .ok (.ireturn, 1) := by decide +kernel
theorem dX2_tellOf_83 : decode cX2_tellOf 83 = .ok (.aload_n 0, 1) := by decide +kernel
theorem dX2_tellOf_84 : decode cX2_tellOf 84 = .ok (.iload_n 1, 1) := by decide +kernel
theorem dX2_tellOf_85 : decode cX2_tellOf 85 = .ok (.invokevirtual 54, 3) := by decide +kernel
theorem dX2_tellOf_88 : decode cX2_tellOf 88 = .ok (.ifCond .eq 7, 3) := by decide +kernel
theorem dX2_tellOf_91 : decode cX2_tellOf 91 = .ok (.iconst 1, 1) := by decide +kernel
theorem dX2_tellOf_92 : decode cX2_tellOf 92 = .ok (.goto 4, 3) := by decide +kernel
theorem dX2_tellOf_95 : decode cX2_tellOf 95 = .ok (.iconst 0, 1) := by decide +kernel
theorem dX2_tellOf_96 : decode cX2_tellOf 96 = .ok (.ireturn, 1) := by decide +kernel
theorem dX2_tellOf_97 : decode cX2_tellOf 97 = .ok (.iconst (-1), 1) := by decide +kernel
theorem dX2_tellOf_98 : decode cX2_tellOf 98 = .ok (.ireturn, 1) := by decide +kernel
set_option maxRecDepth 20000 in
theorem ggX2_freezeOn_X0_fingersIn : GoodIn wsX2_freezeOn wsX0_fingersIn := goodIn_r _ [14, 15, 16, 17, 18, 19, 20, 21, 9, 22, 23, 24, 25] (by decide +kernel) (by decide +kernel)
set_option maxRecDepth 20000 in
theorem gX2_freezeOn_X0_fingersIn_u57X0 : GoodIn wsX2_freezeOn (va_wsO RX2 57 RX0 "SaidInWinter$Layer" ⟨"SaidInWinter$Layer", "fingersIn", "(II)I"⟩ yX0_fingersIn wsX0_fingersIn) := goodIn_app (goodIn_of _ (by decide +kernel)) ggX2_freezeOn_X0_fingersIn
set_option maxRecDepth 20000 in
theorem ggX2_freezeOn_X3_fingersIn : GoodIn wsX2_freezeOn wsX3_fingersIn := goodIn_r _ [20, 21, 9, 22, 23, 24, 25] (by decide +kernel) (by decide +kernel)
set_option maxRecDepth 20000 in
theorem gX2_freezeOn_X3_fingersIn_u57X1 : GoodIn wsX2_freezeOn (va_wsO RX2 57 RX1 "SaidInWinter$Layer" ⟨"SaidInWinter$Layer", "fingersIn", "(II)I"⟩ yX3_fingersIn wsX3_fingersIn) := goodIn_app (goodIn_of _ (by decide +kernel)) ggX2_freezeOn_X3_fingersIn
set_option maxRecDepth 20000 in
theorem gX2_freezeOn_X3_fingersIn_u57X3 : GoodIn wsX2_freezeOn (va_wsO RX2 57 RX3 "SaidInWinter$Layer" ⟨"SaidInWinter$Layer", "fingersIn", "(II)I"⟩ yX3_fingersIn wsX3_fingersIn) := goodIn_app (goodIn_of _ (by decide +kernel)) ggX2_freezeOn_X3_fingersIn
set_option maxRecDepth 20000 in
theorem ggX2_freezeOn_X10_fingersIn : GoodIn wsX2_freezeOn wsX10_fingersIn := goodIn_r _ [31, 32, 9, 33, 23, 24, 25] (by decide +kernel) (by decide +kernel)
set_option maxRecDepth 20000 in
theorem gX2_freezeOn_X10_fingersIn_u57X4 : GoodIn wsX2_freezeOn (va_wsO RX2 57 RX4 "SaidInWinter$Layer" ⟨"SaidInWinter$Layer", "fingersIn", "(II)I"⟩ yX10_fingersIn wsX10_fingersIn) := goodIn_app (goodIn_of _ (by decide +kernel)) ggX2_freezeOn_X10_fingersIn
set_option maxRecDepth 20000 in
theorem ggX2_freezeOn_X5_fingersIn : GoodIn wsX2_freezeOn wsX5_fingersIn := goodIn_r _ [37, 38, 39, 40, 41, 42, 9, 43, 23, 24, 25] (by decide +kernel) (by decide +kernel)
set_option maxRecDepth 20000 in
theorem gX2_freezeOn_X5_fingersIn_u57X5 : GoodIn wsX2_freezeOn (va_wsO RX2 57 RX5 "SaidInWinter$Layer" ⟨"SaidInWinter$Layer", "fingersIn", "(II)I"⟩ yX5_fingersIn wsX5_fingersIn) := goodIn_app (goodIn_of _ (by decide +kernel)) ggX2_freezeOn_X5_fingersIn
set_option maxRecDepth 20000 in
theorem ggX2_freezeOn_X7_fingersIn : GoodIn wsX2_freezeOn wsX7_fingersIn := goodIn_r _ [25] (by decide +kernel) (by decide +kernel)
set_option maxRecDepth 20000 in
theorem gX2_freezeOn_X7_fingersIn : GoodIn wsX2_freezeOn (wsV RX2 57 RX7 yX7_fingersIn wsX7_fingersIn) := goodIn_app (goodIn_of _ (by decide +kernel)) ggX2_freezeOn_X7_fingersIn
set_option maxRecDepth 20000 in
theorem ggX2_freezeOn_X8_fingersIn : GoodIn wsX2_freezeOn wsX8_fingersIn := goodIn_r _ [49, 50, 51, 52, 29, 30, 31, 32, 9, 33, 23, 24, 25] (by decide +kernel) (by decide +kernel)
set_option maxRecDepth 20000 in
theorem gX2_freezeOn_X8_fingersIn_u57X8 : GoodIn wsX2_freezeOn (va_wsO RX2 57 RX8 "SaidInWinter$Layer" ⟨"SaidInWinter$Layer", "fingersIn", "(II)I"⟩ yX8_fingersIn wsX8_fingersIn) := goodIn_app (goodIn_of _ (by decide +kernel)) ggX2_freezeOn_X8_fingersIn
set_option maxRecDepth 20000 in
theorem gX2_freezeOn_X10_fingersIn_u57X10 : GoodIn wsX2_freezeOn (va_wsO RX2 57 RX10 "SaidInWinter$Layer" ⟨"SaidInWinter$Layer", "fingersIn", "(II)I"⟩ yX10_fingersIn wsX10_fingersIn) := goodIn_app (goodIn_of _ (by decide +kernel)) ggX2_freezeOn_X10_fingersIn
set_option maxRecDepth 20000 in
theorem ggX2_freezeOn_X3_melts : GoodIn wsX2_freezeOn wsX3_melts := goodIn_r _ [59, 60, 55, 22, 61, 24, 62] (by decide +kernel) (by decide +kernel)
set_option maxRecDepth 20000 in
theorem gX2_freezeOn_X3_melts_u63X0 : GoodIn wsX2_freezeOn (va_wsO RX2 63 RX0 "SaidInWinter$Layer" ⟨"SaidInWinter$Layer", "melts", "(I)I"⟩ yX3_melts wsX3_melts) := goodIn_app (goodIn_of _ (by decide +kernel)) ggX2_freezeOn_X3_melts
set_option maxRecDepth 20000 in
theorem ggX2_freezeOn_X1_melts : GoodIn wsX2_freezeOn wsX1_melts := goodIn_r _ [66, 67, 68, 69, 58, 19, 59, 60, 55, 22, 61, 24, 62] (by decide +kernel) (by decide +kernel)
set_option maxRecDepth 20000 in
theorem gX2_freezeOn_X1_melts_u63X1 : GoodIn wsX2_freezeOn (va_wsO RX2 63 RX1 "SaidInWinter$Layer" ⟨"SaidInWinter$Layer", "melts", "(I)I"⟩ yX1_melts wsX1_melts) := goodIn_app (goodIn_of _ (by decide +kernel)) ggX2_freezeOn_X1_melts
set_option maxRecDepth 20000 in
theorem gX2_freezeOn_X3_melts_u63X3 : GoodIn wsX2_freezeOn (va_wsO RX2 63 RX3 "SaidInWinter$Layer" ⟨"SaidInWinter$Layer", "melts", "(I)I"⟩ yX3_melts wsX3_melts) := goodIn_app (goodIn_of _ (by decide +kernel)) ggX2_freezeOn_X3_melts
set_option maxRecDepth 20000 in
theorem ggX2_freezeOn_X4_melts : GoodIn wsX2_freezeOn wsX4_melts := goodIn_r _ [74, 75, 76, 77, 78, 30, 79, 80, 55, 33, 61, 24, 62] (by decide +kernel) (by decide +kernel)
set_option maxRecDepth 20000 in
theorem gX2_freezeOn_X4_melts_u63X4 : GoodIn wsX2_freezeOn (va_wsO RX2 63 RX4 "SaidInWinter$Layer" ⟨"SaidInWinter$Layer", "melts", "(I)I"⟩ yX4_melts wsX4_melts) := goodIn_app (goodIn_of _ (by decide +kernel)) ggX2_freezeOn_X4_melts
set_option maxRecDepth 20000 in
theorem ggX2_freezeOn_X5_melts : GoodIn wsX2_freezeOn wsX5_melts := goodIn_r _ [83, 84, 55, 43, 61, 24, 62] (by decide +kernel) (by decide +kernel)
set_option maxRecDepth 20000 in
theorem gX2_freezeOn_X5_melts_u63X5 : GoodIn wsX2_freezeOn (va_wsO RX2 63 RX5 "SaidInWinter$Layer" ⟨"SaidInWinter$Layer", "melts", "(I)I"⟩ yX5_melts wsX5_melts) := goodIn_app (goodIn_of _ (by decide +kernel)) ggX2_freezeOn_X5_melts
set_option maxRecDepth 20000 in
theorem ggX2_freezeOn_X7_melts : GoodIn wsX2_freezeOn wsX7_melts := goodIn_r _ [62] (by decide +kernel) (by decide +kernel)
set_option maxRecDepth 20000 in
theorem gX2_freezeOn_X7_melts : GoodIn wsX2_freezeOn (wsV RX2 63 RX7 yX7_melts wsX7_melts) := goodIn_app (goodIn_of _ (by decide +kernel)) ggX2_freezeOn_X7_melts
set_option maxRecDepth 20000 in
theorem ggX2_freezeOn_X8_melts : GoodIn wsX2_freezeOn wsX8_melts := goodIn_r _ [89, 90, 76, 52, 78, 30, 79, 80, 55, 33, 61, 24, 62] (by decide +kernel) (by decide +kernel)
set_option maxRecDepth 20000 in
theorem gX2_freezeOn_X8_melts_u63X8 : GoodIn wsX2_freezeOn (va_wsO RX2 63 RX8 "SaidInWinter$Layer" ⟨"SaidInWinter$Layer", "melts", "(I)I"⟩ yX8_melts wsX8_melts) := goodIn_app (goodIn_of _ (by decide +kernel)) ggX2_freezeOn_X8_melts
set_option maxRecDepth 20000 in
theorem ggX2_freezeOn_X10_melts : GoodIn wsX2_freezeOn wsX10_melts := goodIn_r _ [79, 80, 55, 33, 61, 24, 62] (by decide +kernel) (by decide +kernel)
set_option maxRecDepth 20000 in
theorem gX2_freezeOn_X10_melts_u63X10 : GoodIn wsX2_freezeOn (va_wsO RX2 63 RX10 "SaidInWinter$Layer" ⟨"SaidInWinter$Layer", "melts", "(I)I"⟩ yX10_melts wsX10_melts) := goodIn_app (goodIn_of _ (by decide +kernel)) ggX2_freezeOn_X10_melts
set_option maxRecDepth 20000 in
theorem ggX2_freezeOn_X0_light : GoodIn wsX2_freezeOn wsX0_light := goodIn_r _ [97, 98, 99, 17, 100, 19, 101, 102, 93, 22, 103, 24, 104] (by decide +kernel) (by decide +kernel)
set_option maxRecDepth 20000 in
theorem gX2_freezeOn_X0_light_u65X0 : GoodIn wsX2_freezeOn (va_wsO RX2 65 RX0 "SaidInWinter$Layer" ⟨"SaidInWinter$Layer", "light", "(I)I"⟩ yX0_light wsX0_light) := goodIn_app (goodIn_of _ (by decide +kernel)) ggX2_freezeOn_X0_light
set_option maxRecDepth 20000 in
theorem ggX2_freezeOn_X1_light : GoodIn wsX2_freezeOn wsX1_light := goodIn_r _ [107, 108, 99, 69, 100, 19, 101, 102, 93, 22, 103, 24, 104] (by decide +kernel) (by decide +kernel)
set_option maxRecDepth 20000 in
theorem gX2_freezeOn_X1_light_u65X1 : GoodIn wsX2_freezeOn (va_wsO RX2 65 RX1 "SaidInWinter$Layer" ⟨"SaidInWinter$Layer", "light", "(I)I"⟩ yX1_light wsX1_light) := goodIn_app (goodIn_of _ (by decide +kernel)) ggX2_freezeOn_X1_light
set_option maxRecDepth 20000 in
theorem ggX2_freezeOn_X3_light : GoodIn wsX2_freezeOn wsX3_light := goodIn_r _ [101, 102, 93, 22, 103, 24, 104] (by decide +kernel) (by decide +kernel)
set_option maxRecDepth 20000 in
theorem gX2_freezeOn_X3_light_u65X3 : GoodIn wsX2_freezeOn (va_wsO RX2 65 RX3 "SaidInWinter$Layer" ⟨"SaidInWinter$Layer", "light", "(I)I"⟩ yX3_light wsX3_light) := goodIn_app (goodIn_of _ (by decide +kernel)) ggX2_freezeOn_X3_light
set_option maxRecDepth 20000 in
theorem ggX2_freezeOn_X4_light : GoodIn wsX2_freezeOn wsX4_light := goodIn_r _ [112] (by decide +kernel) (by decide +kernel)
set_option maxRecDepth 20000 in
theorem gX2_freezeOn_X4_light_u65X4 : GoodIn wsX2_freezeOn (va_wsO RX2 65 RX4 "SaidInWinter$Layer" ⟨"SaidInWinter$Layer", "light", "(I)I"⟩ yX4_light wsX4_light) := goodIn_app (goodIn_of _ (by decide +kernel)) ggX2_freezeOn_X4_light
set_option maxRecDepth 20000 in
theorem ggX2_freezeOn_X7_light : GoodIn wsX2_freezeOn wsX7_light := goodIn_r _ [104] (by decide +kernel) (by decide +kernel)
set_option maxRecDepth 20000 in
theorem gX2_freezeOn_X7_light_u65X5 : GoodIn wsX2_freezeOn (va_wsU RX2 65 RX5 "SaidInWinter$Layer" ⟨"SaidInWinter$Layer", "light", "(I)I"⟩ yX7_light wsX7_light) := goodIn_app (goodIn_of _ (by decide +kernel)) ggX2_freezeOn_X7_light
set_option maxRecDepth 20000 in
theorem gX2_freezeOn_X7_light : GoodIn wsX2_freezeOn (wsV RX2 65 RX7 yX7_light wsX7_light) := goodIn_app (goodIn_of _ (by decide +kernel)) ggX2_freezeOn_X7_light
set_option maxRecDepth 20000 in
theorem ggX2_freezeOn_X10_light : GoodIn wsX2_freezeOn wsX10_light := goodIn_r _ [118, 119, 93, 33, 103, 24, 104] (by decide +kernel) (by decide +kernel)
set_option maxRecDepth 20000 in
theorem gX2_freezeOn_X10_light_u65X8 : GoodIn wsX2_freezeOn (va_wsO RX2 65 RX8 "SaidInWinter$Layer" ⟨"SaidInWinter$Layer", "light", "(I)I"⟩ yX10_light wsX10_light) := goodIn_app (goodIn_of _ (by decide +kernel)) ggX2_freezeOn_X10_light
set_option maxRecDepth 20000 in
theorem gX2_freezeOn_X10_light_u65X10 : GoodIn wsX2_freezeOn (va_wsO RX2 65 RX10 "SaidInWinter$Layer" ⟨"SaidInWinter$Layer", "light", "(I)I"⟩ yX10_light wsX10_light) := goodIn_app (goodIn_of _ (by decide +kernel)) ggX2_freezeOn_X10_light
theorem dX2_freezeOn_0 : decode cX2_freezeOn 0 = .ok (.aload_n 0, 1) := by decide +kernel
theorem dX2_freezeOn_1 : decode cX2_freezeOn 1 = .ok (.getfield 30, 3) := by decide +kernel
theorem dX2_freezeOn_4 : decode cX2_freezeOn 4 = .ok (.istore 6, 2) := by decide +kernel
theorem dX2_freezeOn_6 : decode cX2_freezeOn 6 = .ok (.iload 6, 2) := by decide +kernel
theorem dX2_freezeOn_8 : decode cX2_freezeOn 8 = .ok (.ifCond .lt 10, 3) := by decide +kernel
theorem dX2_freezeOn_11 : decode cX2_freezeOn 11 = .ok (.iload 6, 2) := by decide +kernel
theorem dX2_freezeOn_13 : decode cX2_freezeOn 13 = .ok (.bipush 8, 2) := by decide +kernel
theorem dX2_freezeOn_15 : decode cX2_freezeOn 15 = .ok (.if_icmp .lt 6, 3) := by decide +kernel
theorem dX2_freezeOn_18 : decode cX2_freezeOn 18 = .ok (.bipush (-2), 2) := by decide +kernel
theorem dX2_freezeOn_20 : decode cX2_freezeOn 20 = .ok (.ireturn, 1) := by decide +kernel
theorem dX2_freezeOn_21 : decode cX2_freezeOn 21 = .ok (.aload_n 0, 1) := by decide +kernel
theorem dX2_freezeOn_22 : decode cX2_freezeOn 22 = .ok (.getfield 9, 3) := by decide +kernel
theorem dX2_freezeOn_25 : decode cX2_freezeOn 25 = .ok (.iload 6, 2) := by decide +kernel
theorem dX2_freezeOn_27 : decode cX2_freezeOn 27 = .ok (.iload_n 2, 1) := by decide +kernel
theorem dX2_freezeOn_28 : decode cX2_freezeOn 28 = .ok (.iastore, 1) := by decide +kernel
theorem dX2_freezeOn_29 : decode cX2_freezeOn 29 = .ok (.aload_n 0, 1) := by decide +kernel
theorem dX2_freezeOn_30 : decode cX2_freezeOn 30 = .ok (.getfield 15, 3) := by decide +kernel
theorem dX2_freezeOn_33 : decode cX2_freezeOn 33 = .ok (.iload 6, 2) := by decide +kernel
theorem dX2_freezeOn_35 : decode cX2_freezeOn 35 = .ok (.iload_n 3, 1) := by decide +kernel
theorem dX2_freezeOn_36 : decode cX2_freezeOn 36 = .ok (.iastore, 1) := by decide +kernel
theorem dX2_freezeOn_37 : decode cX2_freezeOn 37 = .ok (.aload_n 0, 1) := by decide +kernel
theorem dX2_freezeOn_38 : decode cX2_freezeOn 38 = .ok (.getfield 18, 3) := by decide +kernel
theorem dX2_freezeOn_41 : decode cX2_freezeOn 41 = .ok (.iload 6, 2) := by decide +kernel
theorem dX2_freezeOn_43 : decode cX2_freezeOn 43 = .ok (.iload 5, 2) := by decide +kernel
theorem dX2_freezeOn_45 : decode cX2_freezeOn 45 = .ok (.iastore, 1) := by decide +kernel
theorem dX2_freezeOn_46 : decode cX2_freezeOn 46 = .ok (.aload_n 0, 1) := by decide +kernel
theorem dX2_freezeOn_47 : decode cX2_freezeOn 47 = .ok (.getfield 21, 3) := by decide +kernel
theorem dX2_freezeOn_50 : decode cX2_freezeOn 50 = .ok (.iload 6, 2) := by decide +kernel
theorem dX2_freezeOn_52 : decode cX2_freezeOn 52 = .ok (.aload_n 1, 1) := by decide +kernel
theorem dX2_freezeOn_53 : decode cX2_freezeOn 53 = .ok (.iload 4, 2) := by decide +kernel
theorem dX2_freezeOn_55 : decode cX2_freezeOn 55 = .ok (.iload_n 3, 1) := by decide +kernel
theorem dX2_freezeOn_56 : decode cX2_freezeOn 56 = .ok (.invokevirtual 57, 3) := by decide +kernel
theorem dX2_freezeOn_59 : decode cX2_freezeOn 59 = .ok (.iastore, 1) := by decide +kernel
theorem dX2_freezeOn_60 : decode cX2_freezeOn 60 = .ok (.aload_n 0, 1) := by decide +kernel
theorem dX2_freezeOn_61 : decode cX2_freezeOn 61 = .ok (.getfield 24, 3) := by decide +kernel
theorem dX2_freezeOn_64 : decode cX2_freezeOn 64 = .ok (.iload 6, 2) := by decide +kernel
theorem dX2_freezeOn_66 : decode cX2_freezeOn 66 = .ok (.aload_n 1, 1) := by decide +kernel
theorem dX2_freezeOn_67 : decode cX2_freezeOn 67 = .ok (.iload_n 3, 1) := by decide +kernel
theorem dX2_freezeOn_68 : decode cX2_freezeOn 68 = .ok (.invokevirtual 63, 3) := by decide +kernel
theorem dX2_freezeOn_71 : decode cX2_freezeOn 71 = .ok (.iastore, 1) := by decide +kernel
theorem dX2_freezeOn_72 : decode cX2_freezeOn 72 = .ok (.aload_n 0, 1) := by decide +kernel
theorem dX2_freezeOn_73 : decode cX2_freezeOn 73 = .ok (.getfield 27, 3) := by decide +kernel
theorem dX2_freezeOn_76 : decode cX2_freezeOn 76 = .ok (.iload 6, 2) := by decide +kernel
theorem dX2_freezeOn_78 : decode cX2_freezeOn 78 = .ok (.aload_n 1, 1) := by decide +kernel
theorem dX2_freezeOn_79 : decode cX2_freezeOn 79 = .ok (.iload_n 3, 1) := by decide +kernel
theorem dX2_freezeOn_80 : decode cX2_freezeOn 80 = .ok (.invokevirtual 65, 3) := by decide +kernel
theorem dX2_freezeOn_83 : decode cX2_freezeOn 83 = .ok (.iastore, 1) := by decide +kernel
theorem dX2_freezeOn_84 : decode cX2_freezeOn 84 = .ok (.aload_n 0, 1) := by decide +kernel
theorem dX2_freezeOn_85 : decode cX2_freezeOn 85 = .ok (.dup, 1) := by decide +kernel
theorem dX2_freezeOn_86 : decode cX2_freezeOn 86 = .ok (.getfield 30, 3) := by decide +kernel
theorem dX2_freezeOn_89 : decode cX2_freezeOn 89 = .ok (.iconst 1, 1) := by decide +kernel
theorem dX2_freezeOn_90 : decode cX2_freezeOn 90 = .ok (.iadd, 1) := by decide +kernel
theorem dX2_freezeOn_91 : decode cX2_freezeOn 91 = .ok (.putfield 30, 3) := by decide +kernel
theorem dX2_freezeOn_94 : decode cX2_freezeOn 94 = .ok (.aload_n 0, 1) := by decide +kernel
theorem dX2_freezeOn_95 : decode cX2_freezeOn 95 = .ok (.getfield 21, 3) := by decide +kernel
theorem dX2_freezeOn_98 : decode cX2_freezeOn 98 = .ok (.iload 6, 2) := by decide +kernel
theorem dX2_freezeOn_100 : decode cX2_freezeOn 100 = .ok (.iaload, 1) := by decide +kernel
theorem dX2_freezeOn_101 : decode cX2_freezeOn 101 = .ok (.ireturn, 1) := by decide +kernel
set_option maxRecDepth 20000 in
theorem ggX2_warmDay_X2_has : GoodIn wsX2_warmDay wsX2_has := goodIn_r _ [10, 1, 25, 26, 27, 28, 29, 30, 31] (by decide +kernel) (by decide +kernel)
set_option maxRecDepth 20000 in
theorem gX2_warmDay_X2_has : GoodIn wsX2_warmDay (wsV RX2 34 RX2 yX2_has wsX2_has) := goodIn_app (goodIn_of _ (by decide +kernel)) ggX2_warmDay_X2_has
set_option maxRecDepth 20000 in
theorem ggX2_warmDay_X2_meltsAt : GoodIn wsX2_warmDay wsX2_meltsAt := goodIn_r _ [14, 15, 6, 7, 8, 9, 10, 1, 25, 26, 27, 28, 29, 30, 31] (by decide +kernel) (by decide +kernel)
set_option maxRecDepth 20000 in
theorem gX2_warmDay_X2_meltsAt : GoodIn wsX2_warmDay (wsV RX2 67 RX2 yX2_meltsAt wsX2_meltsAt) := goodIn_app (goodIn_of _ (by decide +kernel)) ggX2_warmDay_X2_meltsAt
set_option maxRecDepth 20000 in
theorem ggX2_warmDay_X2_thickAt : GoodIn wsX2_warmDay wsX2_thickAt := goodIn_r _ [19, 20, 6, 7, 8, 9, 10, 1, 25, 26, 27, 28, 29, 30, 31] (by decide +kernel) (by decide +kernel)
set_option maxRecDepth 20000 in
theorem gX2_warmDay_X2_thickAt : GoodIn wsX2_warmDay (wsV RX2 38 RX2 yX2_thickAt wsX2_thickAt) := goodIn_app (goodIn_of _ (by decide +kernel)) ggX2_warmDay_X2_thickAt
set_option maxRecDepth 20000 in
theorem ggX2_warmDay_X2_cutOff : GoodIn wsX2_warmDay wsX2_cutOff := goodIn_r _ [24, 1, 2, 3, 4, 5, 20, 16, 17, 18, 9, 19, 6, 7, 8, 10, 25, 26, 27, 28, 29, 30, 31] (by decide +kernel) (by decide +kernel)
set_option maxRecDepth 20000 in
theorem gX2_warmDay_X2_cutOff : GoodIn wsX2_warmDay (wsV RX2 75 RX2 yX2_cutOff wsX2_cutOff) := goodIn_app (goodIn_of _ (by decide +kernel)) ggX2_warmDay_X2_cutOff
theorem dX2_warmDay_0 : decode cX2_warmDay 0 = .ok (.aload_n 0, 1) := by decide +kernel
theorem dX2_warmDay_1 : decode cX2_warmDay 1 = .ok (.getfield 30, 3) := by decide +kernel
theorem dX2_warmDay_4 : decode cX2_warmDay 4 = .ok (.iconst 1, 1) := by decide +kernel
theorem dX2_warmDay_5 : decode cX2_warmDay 5 = .ok (.isub, 1) := by decide +kernel
theorem dX2_warmDay_6 : decode cX2_warmDay 6 = .ok (.istore_n 1, 1) := by decide +kernel
theorem dX2_warmDay_7 : decode cX2_warmDay 7 = .ok (.aload_n 0, 1) := by decide +kernel
theorem dX2_warmDay_8 : decode cX2_warmDay 8 = .ok (.iload_n 1, 1) := by decide +kernel
theorem dX2_warmDay_9 : decode cX2_warmDay 9 = .ok (.invokevirtual 34, 3) := by decide +kernel
theorem dX2_warmDay_12 : decode cX2_warmDay 12 = .ok (.ifCond .eq 23, 3) := by decide +kernel
theorem dX2_warmDay_15 : decode cX2_warmDay 15 = .ok (.aload_n 0, 1) := by decide +kernel
theorem dX2_warmDay_16 : decode cX2_warmDay 16 = .ok (.aload_n 0, 1) := by decide +kernel
theorem dX2_warmDay_17 : decode cX2_warmDay 17 = .ok (.iload_n 1, 1) := by decide +kernel
theorem dX2_warmDay_18 : decode cX2_warmDay 18 = .ok (.invokevirtual 67, 3) := by decide +kernel
theorem dX2_warmDay_21 : decode cX2_warmDay 21 = .ok (.aload_n 0, 1) := by decide +kernel
theorem dX2_warmDay_22 : decode cX2_warmDay 22 = .ok (.iload_n 1, 1) := by decide +kernel
theorem dX2_warmDay_23 : decode cX2_warmDay 23 = .ok (.invokevirtual 38, 3) := by decide +kernel
theorem dX2_warmDay_26 : decode cX2_warmDay 26 = .ok (.invokestatic 70, 3) := by decide +kernel
theorem dX2_warmDay_29 : decode cX2_warmDay 29 = .ok (.invokevirtual 75, 3) := by decide +kernel
theorem dX2_warmDay_32 : decode cX2_warmDay 32 = .ok (.goto 4, 3) := by decide +kernel
theorem dX2_warmDay_35 : decode cX2_warmDay 35 = .ok (.iconst 0, 1) := by decide +kernel
theorem dX2_warmDay_36 : decode cX2_warmDay 36 = .ok (.ireturn, 1) := by decide +kernel
set_option maxRecDepth 20000 in
theorem ggX2_cutOff_X2_thickAt : GoodIn wsX2_cutOff wsX2_thickAt := goodIn_r _ [11, 6, 12, 13, 14, 10, 15, 1, 16, 17, 18, 19, 20, 21, 22] (by decide +kernel) (by decide +kernel)
set_option maxRecDepth 20000 in
theorem gX2_cutOff_X2_thickAt : GoodIn wsX2_cutOff (wsV RX2 38 RX2 yX2_thickAt wsX2_thickAt) := goodIn_app (goodIn_of _ (by decide +kernel)) ggX2_cutOff_X2_thickAt
theorem dX2_cutOff_0 : decode cX2_cutOff 0 = .ok (.aload_n 0, 1) := by decide +kernel
theorem dX2_cutOff_1 : decode cX2_cutOff 1 = .ok (.getfield 30, 3) := by decide +kernel
theorem dX2_cutOff_4 : decode cX2_cutOff 4 = .ok (.istore_n 2, 1) := by decide +kernel
theorem dX2_cutOff_5 : decode cX2_cutOff 5 = .ok (.iload_n 1, 1) := by decide +kernel
theorem dX2_cutOff_6 : decode cX2_cutOff 6 = .ok (.istore_n 3, 1) := by decide +kernel
theorem dX2_cutOff_7 : decode cX2_cutOff 7 = .ok (.aload_n 0, 1) := by decide +kernel
theorem dX2_cutOff_8 : decode cX2_cutOff 8 = .ok (.getfield 30, 3) := by decide +kernel
theorem dX2_cutOff_11 : decode cX2_cutOff 11 = .ok (.iconst 1, 1) := by decide +kernel
theorem dX2_cutOff_12 : decode cX2_cutOff 12 = .ok (.isub, 1) := by decide +kernel
theorem dX2_cutOff_13 : decode cX2_cutOff 13 = .ok (.istore 4, 2) := by decide +kernel
theorem dX2_cutOff_15 : decode cX2_cutOff 15 = .ok (.iload 4, 2) := by decide +kernel
theorem dX2_cutOff_17 : decode cX2_cutOff 17 = .ok (.ifCond .lt 62, 3) := by decide +kernel
theorem dX2_cutOff_20 : decode cX2_cutOff 20 = .ok (.iload_n 3, 1) := by decide +kernel
theorem dX2_cutOff_21 : decode cX2_cutOff 21 = .ok (.ifCond .le 58, 3) := by decide +kernel
theorem dX2_cutOff_24 : decode cX2_cutOff 24 = .ok (.iload_n 3, 1) := by decide +kernel
theorem dX2_cutOff_25 : decode cX2_cutOff 25 = .ok (.aload_n 0, 1) := by decide +kernel
theorem dX2_cutOff_26 : decode cX2_cutOff 26 = .ok (.iload 4, 2) := by decide +kernel
theorem dX2_cutOff_28 : decode cX2_cutOff 28 = .ok (.invokevirtual 38, 3) := by decide +kernel
theorem dX2_cutOff_31 : decode cX2_cutOff 31 = .ok (.invokestatic 70, 3) := by decide +kernel
theorem dX2_cutOff_34 : decode cX2_cutOff 34 = .ok (.istore 5, 2) := by decide +kernel
theorem dX2_cutOff_36 : decode cX2_cutOff 36 = .ok (.iload_n 3, 1) := by decide +kernel
theorem dX2_cutOff_37 : decode cX2_cutOff 37 = .ok (.iload 5, 2) := by decide +kernel
theorem dX2_cutOff_39 : decode cX2_cutOff 39 = .ok (.isub, 1) := by decide +kernel
theorem dX2_cutOff_40 : decode cX2_cutOff 40 = .ok (.istore_n 3, 1) := by decide +kernel
theorem dX2_cutOff_41 : decode cX2_cutOff 41 = .ok (.aload_n 0, 1) := by decide +kernel
theorem dX2_cutOff_42 : decode cX2_cutOff 42 = .ok (.getfield 21, 3) := by decide +kernel
theorem dX2_cutOff_45 : decode cX2_cutOff 45 = .ok (.iload 4, 2) := by decide +kernel
theorem dX2_cutOff_47 : decode cX2_cutOff 47 = .ok (.dup2, 1) := by decide +kernel
theorem dX2_cutOff_48 : decode cX2_cutOff 48 = .ok (.iaload, 1) := by decide +kernel
theorem dX2_cutOff_49 : decode cX2_cutOff 49 = .ok (.iload 5, 2) := by decide +kernel
theorem dX2_cutOff_51 : decode cX2_cutOff 51 = .ok (.isub, 1) := by decide +kernel
theorem dX2_cutOff_52 : decode cX2_cutOff 52 = .ok (.iastore, 1) := by decide +kernel
theorem dX2_cutOff_53 : decode cX2_cutOff 53 = .ok (.aload_n 0, 1) := by decide +kernel
theorem dX2_cutOff_54 : decode cX2_cutOff 54 = .ok (.getfield 21, 3) := by decide +kernel
theorem dX2_cutOff_57 : decode cX2_cutOff 57 = .ok (.iload 4, 2) := by decide +kernel
theorem dX2_cutOff_59 : decode cX2_cutOff 59 = .ok (.iaload, 1) := by decide +kernel
theorem dX2_cutOff_60 : decode cX2_cutOff 60 = .ok (.ifCond .ne 13, 3) := by decide +kernel
theorem dX2_cutOff_63 : decode cX2_cutOff 63 = .ok (.aload_n 0, 1) := by decide +kernel
theorem dX2_cutOff_64 : decode cX2_cutOff 64 = .ok (.dup, 1) := by decide +kernel
theorem dX2_cutOff_65 : decode cX2_cutOff 65 = .ok (.getfield 30, 3) := by decide +kernel
theorem dX2_cutOff_68 : decode cX2_cutOff 68 = .ok (.iconst 1, 1) := by decide +kernel
theorem dX2_cutOff_69 : decode cX2_cutOff 69 = .ok (.isub, 1) := by decide +kernel
theorem dX2_cutOff_70 : decode cX2_cutOff 70 = .ok (.putfield 30, 3) := by decide +kernel
theorem dX2_cutOff_73 : decode cX2_cutOff 73 = .ok (.iinc 4 (-1), 3) := by decide +kernel
theorem dX2_cutOff_76 : decode cX2_cutOff 76 = .ok (.goto (-61), 3) := by decide +kernel
theorem dX2_cutOff_79 : decode cX2_cutOff 79 = .ok (.iload_n 2, 1) := by decide +kernel
theorem dX2_cutOff_80 : decode cX2_cutOff 80 = .ok (.aload_n 0, 1) := by decide +kernel
theorem dX2_cutOff_81 : decode cX2_cutOff 81 = .ok (.getfield 30, 3) := by decide +kernel
theorem dX2_cutOff_84 : decode cX2_cutOff 84 = .ok (.isub, 1) := by decide +kernel
theorem dX2_cutOff_85 : decode cX2_cutOff 85 = .ok (.ireturn, 1) := by decide +kernel
theorem dX2_takeLayers_0 : decode cX2_takeLayers 0 = .ok (.aload_n 0, 1) := by decide +kernel
theorem dX2_takeLayers_1 : decode cX2_takeLayers 1 = .ok (.aload_n 1, 1) := by decide +kernel
theorem dX2_takeLayers_2 : decode cX2_takeLayers 2 = .ok (.getfield 30, 3) := by decide +kernel
theorem dX2_takeLayers_5 : decode cX2_takeLayers 5 = .ok (.putfield 30, 3) := by decide +kernel
theorem dX2_takeLayers_8 : decode cX2_takeLayers 8 = .ok (.iconst 0, 1) := by decide +kernel
theorem dX2_takeLayers_9 : decode cX2_takeLayers 9 = .ok (.istore_n 2, 1) := by decide +kernel
theorem dX2_takeLayers_10 : decode cX2_takeLayers 10 = .ok (.iload_n 2, 1) := by decide +kernel
theorem dX2_takeLayers_11 : decode cX2_takeLayers 11 = .ok (.aload_n 0, 1) := by decide +kernel
theorem dX2_takeLayers_12 : decode cX2_takeLayers 12 = .ok (.getfield 30, 3) := by decide +kernel
theorem dX2_takeLayers_15 : decode cX2_takeLayers 15 = .ok (.if_icmp .ge 87, 3) := by decide +kernel
theorem dX2_takeLayers_18 : decode cX2_takeLayers 18 = .ok (.iload_n 2, 1) := by decide +kernel
theorem dX2_takeLayers_19 : decode cX2_takeLayers 19 = .ok (.bipush 8, 2) := by decide +kernel
theorem dX2_takeLayers_21 : decode cX2_takeLayers 21 = .ok (.if_icmp .ge 81, 3) := by decide +kernel
theorem dX2_takeLayers_24 : decode cX2_takeLayers 24 = .ok (.aload_n 0, 1) := by decide +kernel
theorem dX2_takeLayers_25 : decode cX2_takeLayers 25 = .ok (.getfield 9, 3) := by decide +kernel
theorem dX2_takeLayers_28 : decode cX2_takeLayers 28 = .ok (.iload_n 2, 1) := by decide +kernel
theorem dX2_takeLayers_29 : decode cX2_takeLayers 29 = .ok (.aload_n 1, 1) := by decide +kernel
theorem dX2_takeLayers_30 : decode cX2_takeLayers 30 = .ok (.getfield 9, 3) := by decide +kernel
theorem dX2_takeLayers_33 : decode cX2_takeLayers 33 = .ok (.iload_n 2, 1) := by decide +kernel
theorem dX2_takeLayers_34 : decode cX2_takeLayers 34 = .ok (.iaload, 1) := by decide +kernel
theorem dX2_takeLayers_35 : decode cX2_takeLayers 35 = .ok (.iastore, 1) := by decide +kernel
theorem dX2_takeLayers_36 : decode cX2_takeLayers 36 = .ok (.aload_n 0, 1) := by decide +kernel
theorem dX2_takeLayers_37 : decode cX2_takeLayers 37 = .ok (.getfield 15, 3) := by decide +kernel
theorem dX2_takeLayers_40 : decode cX2_takeLayers 40 = .ok (.iload_n 2, 1) := by decide +kernel
theorem dX2_takeLayers_41 : decode cX2_takeLayers 41 = .ok (.aload_n 1, 1) := by decide +kernel
theorem dX2_takeLayers_42 : decode cX2_takeLayers 42 = .ok (.getfield 15, 3) := by decide +kernel
theorem dX2_takeLayers_45 : decode cX2_takeLayers 45 = .ok (.iload_n 2, 1) := by decide +kernel
theorem dX2_takeLayers_46 : decode cX2_takeLayers 46 = .ok (.iaload, 1) := by decide +kernel
theorem dX2_takeLayers_47 : decode cX2_takeLayers 47 = .ok (.iastore, 1) := by decide +kernel
theorem dX2_takeLayers_48 : decode cX2_takeLayers 48 = .ok (.aload_n 0, 1) := by decide +kernel
theorem dX2_takeLayers_49 : decode cX2_takeLayers 49 = .ok (.getfield 18, 3) := by decide +kernel
theorem dX2_takeLayers_52 : decode cX2_takeLayers 52 = .ok (.iload_n 2, 1) := by decide +kernel
theorem dX2_takeLayers_53 : decode cX2_takeLayers 53 = .ok (.aload_n 1, 1) := by decide +kernel
theorem dX2_takeLayers_54 : decode cX2_takeLayers 54 = .ok (.getfield 18, 3) := by decide +kernel
theorem dX2_takeLayers_57 : decode cX2_takeLayers 57 = .ok (.iload_n 2, 1) := by decide +kernel
theorem dX2_takeLayers_58 : decode cX2_takeLayers 58 = .ok (.iaload, 1) := by decide +kernel
theorem dX2_takeLayers_59 : decode cX2_takeLayers 59 = .ok (.iastore, 1) := by decide +kernel
theorem dX2_takeLayers_60 : decode cX2_takeLayers 60 = .ok (.aload_n 0, 1) := by decide +kernel
theorem dX2_takeLayers_61 : decode cX2_takeLayers 61 = .ok (.getfield 21, 3) := by decide +kernel
theorem dX2_takeLayers_64 : decode cX2_takeLayers 64 = .ok (.iload_n 2, 1) := by decide +kernel
theorem dX2_takeLayers_65 : decode cX2_takeLayers 65 = .ok (.aload_n 1, 1) := by decide +kernel
theorem dX2_takeLayers_66 : decode cX2_takeLayers 66 = .ok (.getfield 21, 3) := by decide +kernel
theorem dX2_takeLayers_69 : decode cX2_takeLayers 69 = .ok (.iload_n 2, 1) := by decide +kernel
theorem dX2_takeLayers_70 : decode cX2_takeLayers 70 = .ok (.iaload, 1) := by decide +kernel
theorem dX2_takeLayers_71 : decode cX2_takeLayers 71 = .ok (.iastore, 1) := by decide +kernel
theorem dX2_takeLayers_72 : decode cX2_takeLayers 72 = .ok (.aload_n 0, 1) := by decide +kernel
theorem dX2_takeLayers_73 : decode cX2_takeLayers 73 = .ok (.getfield 24, 3) := by decide +kernel
theorem dX2_takeLayers_76 : decode cX2_takeLayers 76 = .ok (.iload_n 2, 1) := by decide +kernel
theorem dX2_takeLayers_77 : decode cX2_takeLayers 77 = .ok (.aload_n 1, 1) := by decide +kernel
theorem dX2_takeLayers_78 : decode cX2_takeLayers 78 = .ok (.getfield 24, 3) := by decide +kernel
theorem dX2_takeLayers_81 : decode cX2_takeLayers 81 = .ok (.iload_n 2, 1) := by decide +kernel
theorem dX2_takeLayers_82 : decode cX2_takeLayers 82 = .ok (.iaload, 1) := by decide +kernel
theorem dX2_takeLayers_83 : decode cX2_takeLayers 83 = .ok (.iastore, 1) := by decide +kernel
theorem dX2_takeLayers_84 : decode cX2_takeLayers 84 = .ok (.aload_n 0, 1) := by decide +kernel
theorem dX2_takeLayers_85 : decode cX2_takeLayers 85 = .ok (.getfield 27, 3) := by decide +kernel
theorem dX2_takeLayers_88 : decode cX2_takeLayers 88 = .ok (.iload_n 2, 1) := by decide +kernel
theorem dX2_takeLayers_89 : decode cX2_takeLayers 89 = .ok (.aload_n 1, 1) := by decide +kernel
theorem dX2_takeLayers_90 : decode cX2_takeLayers 90 = .ok (.getfield 27, 3) := by decide +kernel
theorem dX2_takeLayers_93 : decode cX2_takeLayers 93 = .ok (.iload_n 2, 1) := by decide +kernel
theorem dX2_takeLayers_94 : decode cX2_takeLayers 94 = .ok (.iaload, 1) := by decide +kernel
theorem dX2_takeLayers_95 : decode cX2_takeLayers 95 = .ok (.iastore, 1) := by decide +kernel
theorem dX2_takeLayers_96 : decode cX2_takeLayers 96 = .ok (.iinc 2 1, 3) := by decide +kernel
theorem dX2_takeLayers_99 : decode cX2_takeLayers 99 = .ok (.goto (-89), 3) := by decide +kernel
theorem dX2_takeLayers_102 : decode cX2_takeLayers 102 = .ok (.return_, 1) := by decide +kernel
set_option maxRecDepth 20000 in
theorem ggX2_topmostRead_X2_canRead : GoodIn wsX2_topmostRead wsX2_canRead := goodIn_r _ [6, 7, 8, 9, 5, 10, 1, 11, 12, 13, 14, 15, 16, 17, 18, 19, 20, 21, 22, 23, 24, 30, 31, 32, 33, 34, 35, 36] (by decide +kernel) (by decide +kernel)
set_option maxRecDepth 20000 in
theorem gX2_topmostRead_X2_canRead : GoodIn wsX2_topmostRead (wsV RX2 54 RX2 yX2_canRead wsX2_canRead) := goodIn_app (goodIn_of _ (by decide +kernel)) ggX2_topmostRead_X2_canRead
set_option maxRecDepth 20000 in
theorem ggX2_topmostRead_X2_oathAt : GoodIn wsX2_topmostRead wsX2_oathAt := goodIn_r _ [28, 29, 7, 8, 9, 5, 10, 1, 30, 31, 32, 33, 34, 35, 36] (by decide +kernel) (by decide +kernel)
set_option maxRecDepth 20000 in
theorem gX2_topmostRead_X2_oathAt : GoodIn wsX2_topmostRead (wsV RX2 48 RX2 yX2_oathAt wsX2_oathAt) := goodIn_app (goodIn_of _ (by decide +kernel)) ggX2_topmostRead_X2_oathAt
theorem dX2_topmostRead_0 : decode cX2_topmostRead 0 = .ok (.aload_n 0, 1) := by decide +kernel
theorem dX2_topmostRead_1 : decode cX2_topmostRead 1 = .ok (.getfield 30, 3) := by decide +kernel
theorem dX2_topmostRead_4 : decode cX2_topmostRead 4 = .ok (.iconst 1, 1) := by decide +kernel
theorem dX2_topmostRead_5 : decode cX2_topmostRead 5 = .ok (.isub, 1) := by decide +kernel
theorem dX2_topmostRead_6 : decode cX2_topmostRead 6 = .ok (.istore_n 1, 1) := by decide +kernel
theorem dX2_topmostRead_7 : decode cX2_topmostRead 7 = .ok (.iload_n 1, 1) := by decide +kernel
theorem dX2_topmostRead_8 : decode cX2_topmostRead 8 = .ok (.ifCond .lt 23, 3) := by decide +kernel
theorem dX2_topmostRead_11 : decode cX2_topmostRead 11 = .ok (.aload_n 0, 1) := by decide +kernel
theorem dX2_topmostRead_12 : decode cX2_topmostRead 12 = .ok (.iload_n 1, 1) := by decide +kernel
theorem dX2_topmostRead_13 : decode cX2_topmostRead 13 = .ok (.invokevirtual 54, 3) := by decide +kernel
theorem dX2_topmostRead_16 : decode cX2_topmostRead 16 = .ok (.ifCond .eq 9, 3) := by decide +kernel
theorem dX2_topmostRead_19 : decode cX2_topmostRead 19 = .ok (.aload_n 0, 1) := by decide +kernel
theorem dX2_topmostRead_20 : decode cX2_topmostRead 20 = .ok (.iload_n 1, 1) := by decide +kernel
theorem dX2_topmostRead_21 : decode cX2_topmostRead 21 = .ok (.invokevirtual 48, 3) := by decide +kernel
theorem dX2_topmostRead_24 : decode cX2_topmostRead 24 = .ok (.ireturn, 1) := by decide +kernel
theorem dX2_topmostRead_25 : decode cX2_topmostRead 25 = .ok (.iinc 1 (-1), 3) := by decide +kernel
theorem dX2_topmostRead_28 : decode cX2_topmostRead 28 = .ok (.goto (-21), 3) := by decide +kernel
theorem dX2_topmostRead_31 : decode cX2_topmostRead 31 = .ok (.bipush (-4), 2) := by decide +kernel
theorem dX2_topmostRead_33 : decode cX2_topmostRead 33 = .ok (.ireturn, 1) := by decide +kernel
set_option maxRecDepth 20000 in
theorem ggX2_oathsSeen_X2_thickAt : GoodIn wsX2_oathsSeen wsX2_thickAt := goodIn_r _ [10, 11, 12, 13, 14, 9, 15, 1, 26, 27, 28, 29, 30, 31, 32] (by decide +kernel) (by decide +kernel)
set_option maxRecDepth 20000 in
theorem gX2_oathsSeen_X2_thickAt : GoodIn wsX2_oathsSeen (wsV RX2 38 RX2 yX2_thickAt wsX2_thickAt) := goodIn_app (goodIn_of _ (by decide +kernel)) ggX2_oathsSeen_X2_thickAt
set_option maxRecDepth 20000 in
theorem ggX2_oathsSeen_X2_lightAt : GoodIn wsX2_oathsSeen wsX2_lightAt := goodIn_r _ [19, 20, 12, 13, 14, 9, 15, 1, 26, 27, 28, 29, 30, 31, 32] (by decide +kernel) (by decide +kernel)
set_option maxRecDepth 20000 in
theorem gX2_oathsSeen_X2_lightAt : GoodIn wsX2_oathsSeen (wsV RX2 45 RX2 yX2_lightAt wsX2_lightAt) := goodIn_app (goodIn_of _ (by decide +kernel)) ggX2_oathsSeen_X2_lightAt
set_option maxRecDepth 20000 in
theorem ggX2_oathsSeen_X2_oathAt : GoodIn wsX2_oathsSeen wsX2_oathAt := goodIn_r _ [24, 25, 12, 13, 14, 9, 15, 1, 26, 27, 28, 29, 30, 31, 32] (by decide +kernel) (by decide +kernel)
set_option maxRecDepth 20000 in
theorem gX2_oathsSeen_X2_oathAt : GoodIn wsX2_oathsSeen (wsV RX2 48 RX2 yX2_oathAt wsX2_oathAt) := goodIn_app (goodIn_of _ (by decide +kernel)) ggX2_oathsSeen_X2_oathAt
theorem dX2_oathsSeen_0 : decode cX2_oathsSeen 0 = .ok (.iconst 0, 1) := by decide +kernel
theorem dX2_oathsSeen_1 : decode cX2_oathsSeen 1 = .ok (.istore_n 2, 1) := by decide +kernel
theorem dX2_oathsSeen_2 : decode cX2_oathsSeen 2 = .ok (.iload_n 1, 1) := by decide +kernel
theorem dX2_oathsSeen_3 : decode cX2_oathsSeen 3 = .ok (.ineg, 1) := by decide +kernel
theorem dX2_oathsSeen_4 : decode cX2_oathsSeen 4 = .ok (.istore_n 3, 1) := by decide +kernel
theorem dX2_oathsSeen_5 : decode cX2_oathsSeen 5 = .ok (.aload_n 0, 1) := by decide +kernel
theorem dX2_oathsSeen_6 : decode cX2_oathsSeen 6 = .ok (.getfield 30, 3) := by decide +kernel
theorem dX2_oathsSeen_9 : decode cX2_oathsSeen 9 = .ok (.iconst 1, 1) := by decide +kernel
theorem dX2_oathsSeen_10 : decode cX2_oathsSeen 10 = .ok (.isub, 1) := by decide +kernel
theorem dX2_oathsSeen_11 : decode cX2_oathsSeen 11 = .ok (.istore 4, 2) := by decide +kernel
theorem dX2_oathsSeen_13 : decode cX2_oathsSeen 13 = .ok (.iload 4, 2) := by decide +kernel
theorem dX2_oathsSeen_15 : decode cX2_oathsSeen 15 = .ok (.ifCond .lt 66, 3) := by decide +kernel
theorem dX2_oathsSeen_18 : decode cX2_oathsSeen 18 = .ok (.iload_n 3, 1) := by decide +kernel
theorem dX2_oathsSeen_19 : decode cX2_oathsSeen 19 = .ok (.aload_n 0, 1) := by decide +kernel
theorem dX2_oathsSeen_20 : decode cX2_oathsSeen 20 = .ok (.iload 4, 2) := by decide +kernel
theorem dX2_oathsSeen_22 : decode cX2_oathsSeen 22 = .ok (.invokevirtual 38, 3) := by decide +kernel
theorem dX2_oathsSeen_25 : decode cX2_oathsSeen 25 = .ok (.iadd, 1) := by decide +kernel
theorem dX2_oathsSeen_26 : decode cX2_oathsSeen 26 = .ok (.ifCond .le 7, 3) := by decide +kernel
theorem dX2_oathsSeen_29 : decode cX2_oathsSeen 29 = .ok (.iconst 1, 1) := by decide +kernel
theorem dX2_oathsSeen_30 : decode cX2_oathsSeen 30 = .ok (.goto 4, 3) := by decide +kernel
theorem dX2_oathsSeen_33 : decode cX2_oathsSeen 33 = .ok (.iconst 0, 1) := by decide +kernel
theorem dX2_oathsSeen_34 : decode cX2_oathsSeen 34 = .ok (.istore 5, 2) := by decide +kernel
theorem dX2_oathsSeen_36 : decode cX2_oathsSeen 36 = .ok (.iload 5, 2) := by decide +kernel
theorem dX2_oathsSeen_38 : decode cX2_oathsSeen 38 = .ok (.ifCond .eq 28, 3) := by decide +kernel
theorem dX2_oathsSeen_41 : decode cX2_oathsSeen 41 = .ok (.iconst 0, 1) := by decide +kernel
theorem dX2_oathsSeen_42 : decode cX2_oathsSeen 42 = .ok (.iload_n 3, 1) := by decide +kernel
theorem dX2_oathsSeen_43 : decode cX2_oathsSeen 43 = .ok (.invokestatic 78, 3) := by decide +kernel
theorem dX2_oathsSeen_46 : decode cX2_oathsSeen 46 = .ok (.aload_n 0, 1) := by decide +kernel
theorem dX2_oathsSeen_47 : decode cX2_oathsSeen 47 = .ok (.iload 4, 2) := by decide +kernel
theorem dX2_oathsSeen_49 : decode cX2_oathsSeen 49 = .ok (.invokevirtual 45, 3) := by decide +kernel
theorem dX2_oathsSeen_52 : decode cX2_oathsSeen 52 = .ok (.if_icmp .gt 14, 3) := by decide +kernel
theorem dX2_oathsSeen_55 : decode cX2_oathsSeen 55 = .ok (.iload_n 2, 1) := by decide +kernel
theorem dX2_oathsSeen_56 : decode cX2_oathsSeen 56 = .ok (.iconst 1, 1) := by decide +kernel
theorem dX2_oathsSeen_57 : decode cX2_oathsSeen 57 = .ok (.aload_n 0, 1) := by decide +kernel
theorem dX2_oathsSeen_58 : decode cX2_oathsSeen 58 = .ok (.iload 4, 2) := by decide +kernel
theorem dX2_oathsSeen_60 : decode cX2_oathsSeen 60 = .ok (.invokevirtual 48, 3) := by decide +kernel
theorem dX2_oathsSeen_63 : decode cX2_oathsSeen 63 = .ok (.ishl, 1) := by decide +kernel
theorem dX2_oathsSeen_64 : decode cX2_oathsSeen 64 = .ok (.ior, 1) := by decide +kernel
theorem dX2_oathsSeen_65 : decode cX2_oathsSeen 65 = .ok (.istore_n 2, 1) := by decide +kernel
theorem dX2_oathsSeen_66 : decode cX2_oathsSeen 66 = .ok (.iload_n 3, 1) := by decide +kernel
theorem dX2_oathsSeen_67 : decode cX2_oathsSeen 67 = .ok (.aload_n 0, 1) := by decide +kernel
theorem dX2_oathsSeen_68 : decode cX2_oathsSeen 68 = .ok (.iload 4, 2) := by decide +kernel
theorem dX2_oathsSeen_70 : decode cX2_oathsSeen 70 = .ok (.invokevirtual 38, 3) := by decide +kernel
theorem dX2_oathsSeen_73 : decode cX2_oathsSeen 73 = .ok (.iadd, 1) := by decide +kernel
theorem dX2_oathsSeen_74 : decode cX2_oathsSeen 74 = .ok (.istore_n 3, 1) := by decide +kernel
theorem dX2_oathsSeen_75 : decode cX2_oathsSeen 75 = .ok (.iinc 4 (-1), 3) := by decide +kernel
theorem dX2_oathsSeen_78 : decode cX2_oathsSeen 78 = .ok (.goto (-65), 3) := by decide +kernel
theorem dX2_oathsSeen_81 : decode cX2_oathsSeen 81 = .ok (.iload_n 2, 1) := by decide +kernel
theorem dX2_oathsSeen_82 : decode cX2_oathsSeen 82 = .ok (.ireturn, 1) := by decide +kernel
set_option maxRecDepth 20000 in
theorem ggX2_daysOf_X2_meltsAt : GoodIn wsX2_daysOf wsX2_meltsAt := goodIn_r _ [10, 11, 12, 13, 14, 9, 15, 1, 21, 22, 23, 24, 25, 26, 27] (by decide +kernel) (by decide +kernel)
set_option maxRecDepth 20000 in
theorem gX2_daysOf_X2_meltsAt : GoodIn wsX2_daysOf (wsV RX2 67 RX2 yX2_meltsAt wsX2_meltsAt) := goodIn_app (goodIn_of _ (by decide +kernel)) ggX2_daysOf_X2_meltsAt
set_option maxRecDepth 20000 in
theorem ggX2_daysOf_X2_thickAt : GoodIn wsX2_daysOf wsX2_thickAt := goodIn_r _ [19, 20, 12, 13, 14, 9, 15, 1, 21, 22, 23, 24, 25, 26, 27] (by decide +kernel) (by decide +kernel)
set_option maxRecDepth 20000 in
theorem gX2_daysOf_X2_thickAt : GoodIn wsX2_daysOf (wsV RX2 38 RX2 yX2_thickAt wsX2_thickAt) := goodIn_app (goodIn_of _ (by decide +kernel)) ggX2_daysOf_X2_thickAt
theorem dX2_daysOf_0 : decode cX2_daysOf 0 = .ok (.iconst 0, 1) := by decide +kernel
theorem dX2_daysOf_1 : decode cX2_daysOf 1 = .ok (.istore_n 2, 1) := by decide +kernel
theorem dX2_daysOf_2 : decode cX2_daysOf 2 = .ok (.aload_n 0, 1) := by decide +kernel
theorem dX2_daysOf_3 : decode cX2_daysOf 3 = .ok (.getfield 30, 3) := by decide +kernel
theorem dX2_daysOf_6 : decode cX2_daysOf 6 = .ok (.iconst 1, 1) := by decide +kernel
theorem dX2_daysOf_7 : decode cX2_daysOf 7 = .ok (.isub, 1) := by decide +kernel
theorem dX2_daysOf_8 : decode cX2_daysOf 8 = .ok (.istore_n 3, 1) := by decide +kernel
theorem dX2_daysOf_9 : decode cX2_daysOf 9 = .ok (.iload_n 3, 1) := by decide +kernel
theorem dX2_daysOf_10 : decode cX2_daysOf 10 = .ok (.iload_n 1, 1) := by decide +kernel
theorem dX2_daysOf_11 : decode cX2_daysOf 11 = .ok (.if_icmp .lt 36, 3) := by decide +kernel
theorem dX2_daysOf_14 : decode cX2_daysOf 14 = .ok (.iconst 1, 1) := by decide +kernel
theorem dX2_daysOf_15 : decode cX2_daysOf 15 = .ok (.aload_n 0, 1) := by decide +kernel
theorem dX2_daysOf_16 : decode cX2_daysOf 16 = .ok (.iload_n 3, 1) := by decide +kernel
theorem dX2_daysOf_17 : decode cX2_daysOf 17 = .ok (.invokevirtual 67, 3) := by decide +kernel
theorem dX2_daysOf_20 : decode cX2_daysOf 20 = .ok (.invokestatic 78, 3) := by decide +kernel
theorem dX2_daysOf_23 : decode cX2_daysOf 23 = .ok (.istore 4, 2) := by decide +kernel
theorem dX2_daysOf_25 : decode cX2_daysOf 25 = .ok (.iload_n 2, 1) := by decide +kernel
theorem dX2_daysOf_26 : decode cX2_daysOf 26 = .ok (.aload_n 0, 1) := by decide +kernel
theorem dX2_daysOf_27 : decode cX2_daysOf 27 = .ok (.iload_n 3, 1) := by decide +kernel
theorem dX2_daysOf_28 : decode cX2_daysOf 28 = .ok (.invokevirtual 38, 3) := by decide +kernel
theorem dX2_daysOf_31 : decode cX2_daysOf 31 = .ok (.iload 4, 2) := by decide +kernel
theorem dX2_daysOf_33 : decode cX2_daysOf 33 = .ok (.iadd, 1) := by decide +kernel
theorem dX2_daysOf_34 : decode cX2_daysOf 34 = .ok (.iconst 1, 1) := by decide +kernel
theorem dX2_daysOf_35 : decode cX2_daysOf 35 = .ok (.isub, 1) := by decide +kernel
theorem dX2_daysOf_36 : decode cX2_daysOf 36 = .ok (.iload 4, 2) := by decide +kernel
theorem dX2_daysOf_38 : decode cX2_daysOf 38 = .ok (.idiv, 1) := by decide +kernel
theorem dX2_daysOf_39 : decode cX2_daysOf 39 = .ok (.iadd, 1) := by decide +kernel
theorem dX2_daysOf_40 : decode cX2_daysOf 40 = .ok (.istore_n 2, 1) := by decide +kernel
theorem dX2_daysOf_41 : decode cX2_daysOf 41 = .ok (.iinc 3 (-1), 3) := by decide +kernel
theorem dX2_daysOf_44 : decode cX2_daysOf 44 = .ok (.goto (-35), 3) := by decide +kernel
theorem dX2_daysOf_47 : decode cX2_daysOf 47 = .ok (.iload_n 2, 1) := by decide +kernel
theorem dX2_daysOf_48 : decode cX2_daysOf 48 = .ok (.ireturn, 1) := by decide +kernel
set_option maxRecDepth 20000 in
theorem ggX2_keepsOath_X2_oathAt : GoodIn wsX2_keepsOath wsX2_oathAt := goodIn_r _ [6, 7, 8, 9, 10, 5, 11, 1, 30, 31, 32, 33, 34, 35, 36] (by decide +kernel) (by decide +kernel)
set_option maxRecDepth 20000 in
theorem gX2_keepsOath_X2_oathAt : GoodIn wsX2_keepsOath (wsV RX2 48 RX2 yX2_oathAt wsX2_oathAt) := goodIn_app (goodIn_of _ (by decide +kernel)) ggX2_keepsOath_X2_oathAt
set_option maxRecDepth 20000 in
theorem ggX2_keepsOath_X2_daysOf : GoodIn wsX2_keepsOath wsX2_daysOf := goodIn_r _ [15, 1, 16, 17, 18, 19, 20, 21, 22, 5, 23, 24, 8, 9, 10, 11, 25, 26, 27, 28, 29, 30, 31, 32, 33, 34, 35, 36] (by decide +kernel) (by decide +kernel)
set_option maxRecDepth 20000 in
theorem gX2_keepsOath_X2_daysOf : GoodIn wsX2_keepsOath (wsV RX2 81 RX2 yX2_daysOf wsX2_daysOf) := goodIn_app (goodIn_of _ (by decide +kernel)) ggX2_keepsOath_X2_daysOf
theorem dX2_keepsOath_0 : decode cX2_keepsOath 0 = .ok (.iconst 0, 1) := by decide +kernel
theorem dX2_keepsOath_1 : decode cX2_keepsOath 1 = .ok (.istore_n 3, 1) := by decide +kernel
theorem dX2_keepsOath_2 : decode cX2_keepsOath 2 = .ok (.iload_n 3, 1) := by decide +kernel
theorem dX2_keepsOath_3 : decode cX2_keepsOath 3 = .ok (.aload_n 0, 1) := by decide +kernel
theorem dX2_keepsOath_4 : decode cX2_keepsOath 4 = .ok (.getfield 30, 3) := by decide +kernel
theorem dX2_keepsOath_7 : decode cX2_keepsOath 7 = .ok (.if_icmp .ge 29, 3) := by decide +kernel
theorem dX2_keepsOath_10 : decode cX2_keepsOath 10 = .ok (.aload_n 0, 1) := by decide +kernel
theorem dX2_keepsOath_11 : decode cX2_keepsOath 11 = .ok (.iload_n 3, 1) := by decide +kernel
theorem dX2_keepsOath_12 : decode cX2_keepsOath 12 = .ok (.invokevirtual 48, 3) := by decide +kernel
theorem dX2_keepsOath_15 : decode cX2_keepsOath 15 = .ok (.iload_n 1, 1) := by decide +kernel
theorem dX2_keepsOath_16 : decode cX2_keepsOath 16 = .ok (.if_icmp .ne 14, 3) := by decide +kernel
theorem dX2_keepsOath_19 : decode cX2_keepsOath 19 = .ok (.aload_n 0, 1) := by decide +kernel
theorem dX2_keepsOath_20 : decode cX2_keepsOath 20 = .ok (.iload_n 3, 1) := by decide +kernel
theorem dX2_keepsOath_21 : decode cX2_keepsOath 21 = .ok (.invokevirtual 81, 3) := by decide +kernel
theorem dX2_keepsOath_24 : decode cX2_keepsOath 24 = .ok (.iload_n 2, 1) := by decide +kernel
theorem dX2_keepsOath_25 : decode cX2_keepsOath 25 = .ok (.if_icmp .le 5, 3) := by decide +kernel
theorem dX2_keepsOath_28 : decode cX2_keepsOath 28 = .ok (.iconst 1, 1) := by decide +kernel
theorem dX2_keepsOath_29 : decode cX2_keepsOath 29 = .ok (.ireturn, 1) := by decide +kernel
theorem dX2_keepsOath_30 : decode cX2_keepsOath 30 = .ok (.iinc 3 1, 3) := by decide +kernel
theorem dX2_keepsOath_33 : decode cX2_keepsOath 33 = .ok (.goto (-31), 3) := by decide +kernel
theorem dX2_keepsOath_36 : decode cX2_keepsOath 36 = .ok (.iconst 0, 1) := by decide +kernel
theorem dX2_keepsOath_37 : decode cX2_keepsOath 37 = .ok (.ireturn, 1) := by decide +kernel
set_option maxRecDepth 20000 in
theorem ggX2_layerBehind_X2_thickAt : GoodIn wsX2_layerBehind wsX2_thickAt := goodIn_r _ [6, 7, 8, 9, 10, 5, 11, 1, 12, 13, 14, 15, 16, 17, 18] (by decide +kernel) (by decide +kernel)
set_option maxRecDepth 20000 in
theorem gX2_layerBehind_X2_thickAt : GoodIn wsX2_layerBehind (wsV RX2 38 RX2 yX2_thickAt wsX2_thickAt) := goodIn_app (goodIn_of _ (by decide +kernel)) ggX2_layerBehind_X2_thickAt
theorem dX2_layerBehind_0 : decode cX2_layerBehind 0 = .ok (.iload_n 1, 1) := by decide +kernel
theorem dX2_layerBehind_1 : decode cX2_layerBehind 1 = .ok (.istore_n 2, 1) := by decide +kernel
theorem dX2_layerBehind_2 : decode cX2_layerBehind 2 = .ok (.aload_n 0, 1) := by decide +kernel
theorem dX2_layerBehind_3 : decode cX2_layerBehind 3 = .ok (.getfield 30, 3) := by decide +kernel
theorem dX2_layerBehind_6 : decode cX2_layerBehind 6 = .ok (.iconst 1, 1) := by decide +kernel
theorem dX2_layerBehind_7 : decode cX2_layerBehind 7 = .ok (.isub, 1) := by decide +kernel
theorem dX2_layerBehind_8 : decode cX2_layerBehind 8 = .ok (.istore_n 3, 1) := by decide +kernel
theorem dX2_layerBehind_9 : decode cX2_layerBehind 9 = .ok (.iload_n 3, 1) := by decide +kernel
theorem dX2_layerBehind_10 : decode cX2_layerBehind 10 = .ok (.ifCond .lt 28, 3) := by decide +kernel
theorem dX2_layerBehind_13 : decode cX2_layerBehind 13 = .ok (.iload_n 2, 1) := by decide +kernel
theorem dX2_layerBehind_14 : decode cX2_layerBehind 14 = .ok (.aload_n 0, 1) := by decide +kernel
theorem dX2_layerBehind_15 : decode cX2_layerBehind 15 = .ok (.iload_n 3, 1) := by decide +kernel
theorem dX2_layerBehind_16 : decode cX2_layerBehind 16 = .ok (.invokevirtual 38, 3) := by decide +kernel
theorem dX2_layerBehind_19 : decode cX2_layerBehind 19 = .ok (.if_icmp .ge 5, 3) := by decide +kernel
theorem dX2_layerBehind_22 : decode cX2_layerBehind 22 = .ok (.iload_n 3, 1) := by decide +kernel
theorem dX2_layerBehind_23 : decode cX2_layerBehind 23 = .ok (.ireturn, 1) := by decide +kernel
theorem dX2_layerBehind_24 : decode cX2_layerBehind 24 = .ok (.iload_n 2, 1) := by decide +kernel
theorem dX2_layerBehind_25 : decode cX2_layerBehind 25 = .ok (.aload_n 0, 1) := by decide +kernel
theorem dX2_layerBehind_26 : decode cX2_layerBehind 26 = .ok (.iload_n 3, 1) := by decide +kernel
theorem dX2_layerBehind_27 : decode cX2_layerBehind 27 = .ok (.invokevirtual 38, 3) := by decide +kernel
theorem dX2_layerBehind_30 : decode cX2_layerBehind 30 = .ok (.isub, 1) := by decide +kernel
theorem dX2_layerBehind_31 : decode cX2_layerBehind 31 = .ok (.istore_n 2, 1) := by decide +kernel
theorem dX2_layerBehind_32 : decode cX2_layerBehind 32 = .ok (.iinc 3 (-1), 3) := by decide +kernel
theorem dX2_layerBehind_35 : decode cX2_layerBehind 35 = .ok (.goto (-26), 3) := by decide +kernel
theorem dX2_layerBehind_38 : decode cX2_layerBehind 38 = .ok (.iconst (-1), 1) := by decide +kernel
theorem dX2_layerBehind_39 : decode cX2_layerBehind 39 = .ok (.ireturn, 1) := by decide +kernel
set_option maxRecDepth 20000 in
theorem ggX2_lowestThickOf_X2_winterAt : GoodIn wsX2_lowestThickOf wsX2_winterAt := goodIn_r _ [6, 7, 8, 9, 10, 5, 11, 1, 17, 18, 19, 20, 21, 22, 23] (by decide +kernel) (by decide +kernel)
set_option maxRecDepth 20000 in
theorem gX2_lowestThickOf_X2_winterAt : GoodIn wsX2_lowestThickOf (wsV RX2 51 RX2 yX2_winterAt wsX2_winterAt) := goodIn_app (goodIn_of _ (by decide +kernel)) ggX2_lowestThickOf_X2_winterAt
set_option maxRecDepth 20000 in
theorem ggX2_lowestThickOf_X2_thickAt : GoodIn wsX2_lowestThickOf wsX2_thickAt := goodIn_r _ [15, 16, 8, 9, 10, 5, 11, 1, 17, 18, 19, 20, 21, 22, 23] (by decide +kernel) (by decide +kernel)
set_option maxRecDepth 20000 in
theorem gX2_lowestThickOf_X2_thickAt : GoodIn wsX2_lowestThickOf (wsV RX2 38 RX2 yX2_thickAt wsX2_thickAt) := goodIn_app (goodIn_of _ (by decide +kernel)) ggX2_lowestThickOf_X2_thickAt
theorem dX2_lowestThickOf_0 : decode cX2_lowestThickOf 0 = .ok (.iconst 0, 1) := by decide +kernel
theorem dX2_lowestThickOf_1 : decode cX2_lowestThickOf 1 = .ok (.istore_n 2, 1) := by decide +kernel
theorem dX2_lowestThickOf_2 : decode cX2_lowestThickOf 2 = .ok (.iload_n 2, 1) := by decide +kernel
theorem dX2_lowestThickOf_3 : decode cX2_lowestThickOf 3 = .ok (.aload_n 0, 1) := by decide +kernel
theorem dX2_lowestThickOf_4 : decode cX2_lowestThickOf 4 = .ok (.getfield 30, 3) := by decide +kernel
theorem dX2_lowestThickOf_7 : decode cX2_lowestThickOf 7 = .ok (.if_icmp .ge 24, 3) := by decide +kernel
theorem dX2_lowestThickOf_10 : decode cX2_lowestThickOf 10 = .ok (.aload_n 0, 1) := by decide +kernel
theorem dX2_lowestThickOf_11 : decode cX2_lowestThickOf 11 = .ok (.iload_n 2, 1) := by decide +kernel
theorem dX2_lowestThickOf_12 : decode cX2_lowestThickOf 12 = .ok (.invokevirtual 51, 3) := by decide +kernel
theorem dX2_lowestThickOf_15 : decode cX2_lowestThickOf 15 = .ok (.iload_n 1, 1) := by decide +kernel
theorem dX2_lowestThickOf_16 : decode cX2_lowestThickOf 16 = .ok (.if_icmp .ne 9, 3) := by decide +kernel
theorem dX2_lowestThickOf_19 : decode cX2_lowestThickOf 19 = .ok (.aload_n 0, 1) := by decide +kernel
theorem dX2_lowestThickOf_20 : decode cX2_lowestThickOf 20 = .ok (.iload_n 2, 1) := by decide +kernel
theorem dX2_lowestThickOf_21 : decode cX2_lowestThickOf 21 = .ok (.invokevirtual 38, 3) := by decide +kernel
theorem dX2_lowestThickOf_24 : decode cX2_lowestThickOf 24 = .ok (.ireturn, 1) := by decide +kernel
theorem dX2_lowestThickOf_25 : decode cX2_lowestThickOf 25 = .ok (.iinc 2 1, 3) := by decide +kernel
theorem dX2_lowestThickOf_28 : decode cX2_lowestThickOf 28 = .ok (.goto (-26), 3) := by decide +kernel
theorem dX2_lowestThickOf_31 : decode cX2_lowestThickOf 31 = .ok (.iconst 0, 1) := by decide +kernel
theorem dX2_lowestThickOf_32 : decode cX2_lowestThickOf 32 = .ok (.ireturn, 1) := by decide +kernel
set_option maxRecDepth 20000 in
theorem ggX2_unorderedPairs_X2_winterAt : GoodIn wsX2_unorderedPairs wsX2_winterAt := goodIn_r _ [6, 7, 8, 9, 10, 5, 11, 1, 12, 13, 14, 15, 16, 17, 18] (by decide +kernel) (by decide +kernel)
set_option maxRecDepth 20000 in
theorem gX2_unorderedPairs_X2_winterAt : GoodIn wsX2_unorderedPairs (wsV RX2 51 RX2 yX2_winterAt wsX2_winterAt) := goodIn_app (goodIn_of _ (by decide +kernel)) ggX2_unorderedPairs_X2_winterAt
theorem dX2_unorderedPairs_0 : decode cX2_unorderedPairs 0 = .ok (.iconst 0, 1) := by decide +kernel
theorem dX2_unorderedPairs_1 : decode cX2_unorderedPairs 1 = .ok (.istore_n 1, 1) := by decide +kernel
theorem dX2_unorderedPairs_2 : decode cX2_unorderedPairs 2 = .ok (.iconst 1, 1) := by decide +kernel
theorem dX2_unorderedPairs_3 : decode cX2_unorderedPairs 3 = .ok (.istore_n 2, 1) := by decide +kernel
theorem dX2_unorderedPairs_4 : decode cX2_unorderedPairs 4 = .ok (.iload_n 2, 1) := by decide +kernel
theorem dX2_unorderedPairs_5 : decode cX2_unorderedPairs 5 = .ok (.aload_n 0, 1) := by decide +kernel
theorem dX2_unorderedPairs_6 : decode cX2_unorderedPairs 6 = .ok (.getfield 30, 3) := by decide +kernel
theorem dX2_unorderedPairs_9 : decode cX2_unorderedPairs 9 = .ok (.if_icmp .ge 27, 3) := by decide +kernel
theorem dX2_unorderedPairs_12 : decode cX2_unorderedPairs 12 = .ok (.aload_n 0, 1) := by decide +kernel
theorem dX2_unorderedPairs_13 : decode cX2_unorderedPairs 13 = .ok (.iload_n 2, 1) := by decide +kernel
theorem dX2_unorderedPairs_14 : decode cX2_unorderedPairs 14 = .ok (.invokevirtual 51, 3) := by decide +kernel
theorem dX2_unorderedPairs_17 : decode cX2_unorderedPairs 17 = .ok (.aload_n 0, 1) := by decide +kernel
theorem dX2_unorderedPairs_18 : decode cX2_unorderedPairs 18 = .ok (.iload_n 2, 1) := by decide +kernel
theorem dX2_unorderedPairs_19 : decode cX2_unorderedPairs 19 = .ok (.iconst 1, 1) := by decide +kernel
theorem dX2_unorderedPairs_20 : decode cX2_unorderedPairs 20 = .ok (.isub, 1) := by decide +kernel
theorem dX2_unorderedPairs_21 : decode cX2_unorderedPairs 21 = .ok (.invokevirtual 51, 3) := by decide +kernel
theorem dX2_unorderedPairs_24 : decode cX2_unorderedPairs 24 = .ok (.if_icmp .ge 6, 3) := by decide +kernel
theorem dX2_unorderedPairs_27 : decode cX2_unorderedPairs 27 = .ok (.iinc 1 1, 3) := by decide +kernel
theorem dX2_unorderedPairs_30 : decode cX2_unorderedPairs 30 = .ok (.iinc 2 1, 3) := by decide +kernel
theorem dX2_unorderedPairs_33 : decode cX2_unorderedPairs 33 = .ok (.goto (-29), 3) := by decide +kernel
theorem dX2_unorderedPairs_36 : decode cX2_unorderedPairs 36 = .ok (.iload_n 1, 1) := by decide +kernel
theorem dX2_unorderedPairs_37 : decode cX2_unorderedPairs 37 = .ok (.ireturn, 1) := by decide +kernel
set_option maxRecDepth 20000 in
theorem ggX2_readableLayers_X2_canRead : GoodIn wsX2_readableLayers wsX2_canRead := goodIn_r _ [6, 7, 8, 9, 5, 10, 1, 11, 12, 13, 14, 15, 16, 17, 18, 19, 20, 21, 22, 23, 24, 25, 26, 27, 28, 29, 30, 31] (by decide +kernel) (by decide +kernel)
set_option maxRecDepth 20000 in
theorem gX2_readableLayers_X2_canRead : GoodIn wsX2_readableLayers (wsV RX2 54 RX2 yX2_canRead wsX2_canRead) := goodIn_app (goodIn_of _ (by decide +kernel)) ggX2_readableLayers_X2_canRead
theorem dX2_readableLayers_0 : decode cX2_readableLayers 0 = .ok (.iconst 0, 1) := by decide +kernel
theorem dX2_readableLayers_1 : decode cX2_readableLayers 1 = .ok (.istore_n 1, 1) := by decide +kernel
theorem dX2_readableLayers_2 : decode cX2_readableLayers 2 = .ok (.iconst 0, 1) := by decide +kernel
theorem dX2_readableLayers_3 : decode cX2_readableLayers 3 = .ok (.istore_n 2, 1) := by decide +kernel
theorem dX2_readableLayers_4 : decode cX2_readableLayers 4 = .ok (.iload_n 2, 1) := by decide +kernel
theorem dX2_readableLayers_5 : decode cX2_readableLayers 5 = .ok (.aload_n 0, 1) := by decide +kernel
theorem dX2_readableLayers_6 : decode cX2_readableLayers 6 = .ok (.getfield 30, 3) := by decide +kernel
theorem dX2_readableLayers_9 : decode cX2_readableLayers 9 = .ok (.if_icmp .ge 20, 3) := by decide +kernel
theorem dX2_readableLayers_12 : decode cX2_readableLayers 12 = .ok (.aload_n 0, 1) := by decide +kernel
theorem dX2_readableLayers_13 : decode cX2_readableLayers 13 = .ok (.iload_n 2, 1) := by decide +kernel
theorem dX2_readableLayers_14 : decode cX2_readableLayers 14 = .ok (.invokevirtual 54, 3) := by decide +kernel
theorem dX2_readableLayers_17 : decode cX2_readableLayers 17 = .ok (.ifCond .eq 6, 3) := by decide +kernel
theorem dX2_readableLayers_20 : decode cX2_readableLayers 20 = .ok (.iinc 1 1, 3) := by decide +kernel
theorem dX2_readableLayers_23 : decode cX2_readableLayers 23 = .ok (.iinc 2 1, 3) := by decide +kernel
theorem dX2_readableLayers_26 : decode cX2_readableLayers 26 = .ok (.goto (-22), 3) := by decide +kernel
theorem dX2_readableLayers_29 : decode cX2_readableLayers 29 = .ok (.iload_n 1, 1) := by decide +kernel
theorem dX2_readableLayers_30 : decode cX2_readableLayers 30 = .ok (.ireturn, 1) := by decide +kernel
set_option maxRecDepth 20000 in
theorem ggX2_oaths_X2_oathAt : GoodIn wsX2_oaths wsX2_oathAt := goodIn_r _ [6, 7, 8, 9, 10, 5, 11, 1, 12, 13, 14, 15, 16, 17, 18] (by decide +kernel) (by decide +kernel)
set_option maxRecDepth 20000 in
theorem gX2_oaths_X2_oathAt : GoodIn wsX2_oaths (wsV RX2 48 RX2 yX2_oathAt wsX2_oathAt) := goodIn_app (goodIn_of _ (by decide +kernel)) ggX2_oaths_X2_oathAt
theorem dX2_oaths_0 : decode cX2_oaths 0 = .ok (.iconst 0, 1) := by decide +kernel
theorem dX2_oaths_1 : decode cX2_oaths 1 = .ok (.istore_n 1, 1) := by decide +kernel
theorem dX2_oaths_2 : decode cX2_oaths 2 = .ok (.iconst 0, 1) := by decide +kernel
theorem dX2_oaths_3 : decode cX2_oaths 3 = .ok (.istore_n 2, 1) := by decide +kernel
theorem dX2_oaths_4 : decode cX2_oaths 4 = .ok (.iload_n 2, 1) := by decide +kernel
theorem dX2_oaths_5 : decode cX2_oaths 5 = .ok (.aload_n 0, 1) := by decide +kernel
theorem dX2_oaths_6 : decode cX2_oaths 6 = .ok (.getfield 30, 3) := by decide +kernel
theorem dX2_oaths_9 : decode cX2_oaths 9 = .ok (.if_icmp .ge 19, 3) := by decide +kernel
theorem dX2_oaths_12 : decode cX2_oaths 12 = .ok (.iload_n 1, 1) := by decide +kernel
theorem dX2_oaths_13 : decode cX2_oaths 13 = .ok (.iconst 1, 1) := by decide +kernel
theorem dX2_oaths_14 : decode cX2_oaths 14 = .ok (.aload_n 0, 1) := by decide +kernel
theorem dX2_oaths_15 : decode cX2_oaths 15 = .ok (.iload_n 2, 1) := by decide +kernel
theorem dX2_oaths_16 : decode cX2_oaths 16 = .ok (.invokevirtual 48, 3) := by decide +kernel
theorem dX2_oaths_19 : decode cX2_oaths 19 = .ok (.ishl, 1) := by decide +kernel
theorem dX2_oaths_20 : decode cX2_oaths 20 = .ok (.ior, 1) := by decide +kernel
theorem dX2_oaths_21 : decode cX2_oaths 21 = .ok (.istore_n 1, 1) := by decide +kernel
theorem dX2_oaths_22 : decode cX2_oaths 22 = .ok (.iinc 2 1, 3) := by decide +kernel
theorem dX2_oaths_25 : decode cX2_oaths 25 = .ok (.goto (-21), 3) := by decide +kernel
theorem dX2_oaths_28 : decode cX2_oaths 28 = .ok (.iload_n 1, 1) := by decide +kernel
theorem dX2_oaths_29 : decode cX2_oaths 29 = .ok (.ireturn, 1) := by decide +kernel
set_option maxRecDepth 20000 in
theorem ggX2_tellAhead_X2_oathAt : GoodIn wsX2_tellAhead wsX2_oathAt := goodIn_r _ [6, 7, 8, 9, 10, 5, 11, 1, 15, 16, 17, 18, 19, 20, 21] (by decide +kernel) (by decide +kernel)
set_option maxRecDepth 20000 in
theorem gX2_tellAhead_X2_oathAt : GoodIn wsX2_tellAhead (wsV RX2 48 RX2 yX2_oathAt wsX2_oathAt) := goodIn_app (goodIn_of _ (by decide +kernel)) ggX2_tellAhead_X2_oathAt
set_option maxRecDepth 20000 in
theorem ggX2_tellAhead_X11_within : GoodIn wsX2_tellAhead wsX11_within := goodIn_r _ [14] (by decide +kernel) (by decide +kernel)
set_option maxRecDepth 20000 in
theorem gX2_tellAhead_X11_within_n84 : GoodIn wsX2_tellAhead (wsX11_within) := ggX2_tellAhead_X11_within
theorem dX2_tellAhead_0 : decode cX2_tellAhead 0 = .ok (.iconst 0, 1) := by decide +kernel
theorem dX2_tellAhead_1 : decode cX2_tellAhead 1 = .ok (.istore_n 2, 1) := by decide +kernel
theorem dX2_tellAhead_2 : decode cX2_tellAhead 2 = .ok (.iconst 0, 1) := by decide +kernel
theorem dX2_tellAhead_3 : decode cX2_tellAhead 3 = .ok (.istore_n 3, 1) := by decide +kernel
theorem dX2_tellAhead_4 : decode cX2_tellAhead 4 = .ok (.iload_n 3, 1) := by decide +kernel
theorem dX2_tellAhead_5 : decode cX2_tellAhead 5 = .ok (.aload_n 0, 1) := by decide +kernel
theorem dX2_tellAhead_6 : decode cX2_tellAhead 6 = .ok (.getfield 30, 3) := by decide +kernel
theorem dX2_tellAhead_9 : decode cX2_tellAhead 9 = .ok (.if_icmp .ge 51, 3) := by decide +kernel
theorem dX2_tellAhead_12 : decode cX2_tellAhead 12 = .ok (.aload_n 0, 1) := by decide +kernel
theorem dX2_tellAhead_13 : decode cX2_tellAhead 13 = .ok (.iload_n 3, 1) := by decide +kernel
theorem dX2_tellAhead_14 : decode cX2_tellAhead 14 = .ok (.invokevirtual 48, 3) := by decide +kernel
theorem dX2_tellAhead_17 : decode cX2_tellAhead 17 = .ok (.istore 4, 2) := by decide +kernel
theorem dX2_tellAhead_19 : decode cX2_tellAhead 19 = .ok (.iload 4, 2) := by decide +kernel
theorem dX2_tellAhead_21 : decode cX2_tellAhead 21 = .ok (.iconst 0, 1) := by decide +kernel
theorem dX2_tellAhead_22 : decode cX2_tellAhead 22 = .ok (.aload_n 1, 1) := by decide +kernel
theorem dX2_tellAhead_23 : decode cX2_tellAhead 23 = .ok (.arraylength, 1) := by decide +kernel
theorem dX2_tellAhead_24 : decode cX2_tellAhead 24 = .ok (.iconst 1, 1) := by decide +kernel
theorem dX2_tellAhead_25 : decode cX2_tellAhead 25 = .ok (.isub, 1) := by decide +kernel
theorem dX2_tellAhead_26 : decode cX2_tellAhead 26 = .ok (.invokestatic 84, 3) := by decide +kernel
theorem dX2_tellAhead_29 : decode cX2_tellAhead 29 = .ok (.ifCond .eq 18, 3) := by decide +kernel
theorem dX2_tellAhead_32 : decode cX2_tellAhead 32 = .ok (.aload_n 1, 1) := by decide +kernel
theorem dX2_tellAhead_33 : decode cX2_tellAhead 33 = .ok (.iload 4, 2) := by decide +kernel
theorem dX2_tellAhead_35 : decode cX2_tellAhead 35 = .ok (.dup2, 1) := by decide +kernel
theorem dX2_tellAhead_36 : decode cX2_tellAhead 36 = .ok (.iaload, 1) := by decide +kernel
theorem dX2_tellAhead_37 : decode cX2_tellAhead 37 = .ok (.iload_n 2, 1) := by decide +kernel
theorem dX2_tellAhead_38 : decode cX2_tellAhead 38 = .ok (.iconst 1, 1) := by decide +kernel
theorem dX2_tellAhead_39 : decode cX2_tellAhead 39 = .ok (.iload 4, 2) := by decide +kernel
theorem dX2_tellAhead_41 : decode cX2_tellAhead 41 = .ok (.ishl, 1) := by decide +kernel
theorem dX2_tellAhead_42 : decode cX2_tellAhead 42 = .ok (.iconst (-1), 1) := by decide +kernel
theorem dX2_tellAhead_43 : decode cX2_tellAhead 43 = .ok (.ixor, 1) := by decide +kernel
theorem dX2_tellAhead_44 : decode cX2_tellAhead 44 = .ok (.iand, 1) := by decide +kernel
theorem dX2_tellAhead_45 : decode cX2_tellAhead 45 = .ok (.ior, 1) := by decide +kernel
theorem dX2_tellAhead_46 : decode cX2_tellAhead 46 = .ok (.iastore, 1) := by decide +kernel
theorem dX2_tellAhead_47 : decode cX2_tellAhead 47 = .ok (.iload_n 2, 1) := by decide +kernel
theorem dX2_tellAhead_48 : decode cX2_tellAhead 48 = .ok (.iconst 1, 1) := by decide +kernel
theorem dX2_tellAhead_49 : decode cX2_tellAhead 49 = .ok (.iload 4, 2) := by decide +kernel
theorem dX2_tellAhead_51 : decode cX2_tellAhead 51 = .ok (.ishl, 1) := by decide +kernel
theorem dX2_tellAhead_52 : decode cX2_tellAhead 52 = .ok (.ior, 1) := by decide +kernel
theorem dX2_tellAhead_53 : decode cX2_tellAhead 53 = .ok (.istore_n 2, 1) := by decide +kernel
theorem dX2_tellAhead_54 : decode cX2_tellAhead 54 = .ok (.iinc 3 1, 3) := by decide +kernel
theorem dX2_tellAhead_57 : decode cX2_tellAhead 57 = .ok (.goto (-53), 3) := by decide +kernel
theorem dX2_tellAhead_60 : decode cX2_tellAhead 60 = .ok (.return_, 1) := by decide +kernel
set_option maxRecDepth 20000 in
theorem ggX3_init_X7_init : GoodIn wsX3_init wsX7_init := goodIn_r _ [3, 4, 5, 6] (by decide +kernel) (by decide +kernel)
set_option maxRecDepth 20000 in
theorem gX3_init_X7_init_n1 : GoodIn wsX3_init (wsX7_init) := ggX3_init_X7_init
theorem dX3_init_0 : decode cX3_init 0 = .ok (.aload_n 0, 1) := by decide +kernel
theorem dX3_init_1 : decode cX3_init 1 = .ok (.invokespecial 1, 3) := by decide +kernel
theorem dX3_init_4 : decode cX3_init 4 = .ok (.return_, 1) := by decide +kernel
set_option maxRecDepth 20000 in
theorem ggX3_fingersIn_X7_fingersIn : GoodIn wsX3_fingersIn wsX7_fingersIn := goodIn_r _ [6] (by decide +kernel) (by decide +kernel)
set_option maxRecDepth 20000 in
theorem gX3_fingersIn_X7_fingersIn_s7 : GoodIn wsX3_fingersIn (va_wsSU RX3 7 yX7_fingersIn wsX7_fingersIn) := goodIn_app (goodIn_of _ (by decide +kernel)) ggX3_fingersIn_X7_fingersIn
theorem dX3_fingersIn_0 : decode cX3_fingersIn 0 = .ok (.aload_n 0, 1) := by decide +kernel
theorem dX3_fingersIn_1 : decode cX3_fingersIn 1 = .ok (.iload_n 1, 1) := by decide +kernel
theorem dX3_fingersIn_2 : decode cX3_fingersIn 2 = .ok (.iload_n 2, 1) := by decide +kernel
theorem dX3_fingersIn_3 : decode cX3_fingersIn 3 = .ok (.invokespecial 7, 3) := by decide +kernel
theorem dX3_fingersIn_6 : decode cX3_fingersIn 6 = .ok (.iconst 1, 1) := by decide +kernel
theorem dX3_fingersIn_7 : decode cX3_fingersIn 7 = .ok (.iadd, 1) := by decide +kernel
theorem dX3_fingersIn_8 : decode cX3_fingersIn 8 = .ok (.ireturn, 1) := by decide +kernel
set_option maxRecDepth 20000 in
theorem ggX3_melts_X7_melts : GoodIn wsX3_melts wsX7_melts := goodIn_r _ [6] (by decide +kernel) (by decide +kernel)
set_option maxRecDepth 20000 in
theorem gX3_melts_X7_melts_s11 : GoodIn wsX3_melts (va_wsSU RX3 11 yX7_melts wsX7_melts) := goodIn_app (goodIn_of _ (by decide +kernel)) ggX3_melts_X7_melts
theorem dX3_melts_0 : decode cX3_melts 0 = .ok (.aload_n 0, 1) := by decide +kernel
theorem dX3_melts_1 : decode cX3_melts 1 = .ok (.iload_n 1, 1) := by decide +kernel
theorem dX3_melts_2 : decode cX3_melts 2 = .ok (.invokespecial 11, 3) := by decide +kernel
theorem dX3_melts_5 : decode cX3_melts 5 = .ok (.iconst 1, 1) := by decide +kernel
theorem dX3_melts_6 : decode cX3_melts 6 = .ok (.isub, 1) := by decide +kernel
theorem dX3_melts_7 : decode cX3_melts 7 = .ok (.ireturn, 1) := by decide +kernel
set_option maxRecDepth 20000 in
theorem ggX3_light_X7_light : GoodIn wsX3_light wsX7_light := goodIn_r _ [6] (by decide +kernel) (by decide +kernel)
set_option maxRecDepth 20000 in
theorem gX3_light_X7_light_s15 : GoodIn wsX3_light (va_wsSU RX3 15 yX7_light wsX7_light) := goodIn_app (goodIn_of _ (by decide +kernel)) ggX3_light_X7_light
theorem dX3_light_0 : decode cX3_light 0 = .ok (.aload_n 0, 1) := by decide +kernel
theorem dX3_light_1 : decode cX3_light 1 = .ok (.iload_n 1, 1) := by decide +kernel
theorem dX3_light_2 : decode cX3_light 2 = .ok (.invokespecial 15, 3) := by decide +kernel
theorem dX3_light_5 : decode cX3_light 5 = .ok (.iconst 5, 1) := by decide +kernel
theorem dX3_light_6 : decode cX3_light 6 = .ok (.iadd, 1) := by decide +kernel
theorem dX3_light_7 : decode cX3_light 7 = .ok (.ireturn, 1) := by decide +kernel
set_option maxRecDepth 20000 in
theorem ggX3_tollWith_X7_tollWith : GoodIn wsX3_tollWith wsX7_tollWith := goodIn_r _ [6] (by decide +kernel) (by decide +kernel)
set_option maxRecDepth 20000 in
theorem gX3_tollWith_X7_tollWith_s18 : GoodIn wsX3_tollWith (va_wsSU RX3 18 yX7_tollWith wsX7_tollWith) := goodIn_app (goodIn_of _ (by decide +kernel)) ggX3_tollWith_X7_tollWith
theorem dX3_tollWith_0 : decode cX3_tollWith 0 = .ok (.aload_n 0, 1) := by decide +kernel
theorem dX3_tollWith_1 : decode cX3_tollWith 1 = .ok (.iload_n 1, 1) := by decide +kernel
theorem dX3_tollWith_2 : decode cX3_tollWith 2 = .ok (.invokespecial 18, 3) := by decide +kernel
theorem dX3_tollWith_5 : decode cX3_tollWith 5 = .ok (.iload_n 1, 1) := by decide +kernel
theorem dX3_tollWith_6 : decode cX3_tollWith 6 = .ok (.iadd, 1) := by decide +kernel
theorem dX3_tollWith_7 : decode cX3_tollWith 7 = .ok (.ireturn, 1) := by decide +kernel
set_option maxRecDepth 20000 in
theorem ggX4_init_X10_init : GoodIn wsX4_init wsX10_init := goodIn_r _ [3, 4, 5, 6, 7, 8, 9] (by decide +kernel) (by decide +kernel)
set_option maxRecDepth 20000 in
theorem gX4_init_X10_init_n1 : GoodIn wsX4_init (wsX10_init) := ggX4_init_X10_init
theorem dX4_init_0 : decode cX4_init 0 = .ok (.aload_n 0, 1) := by decide +kernel
theorem dX4_init_1 : decode cX4_init 1 = .ok (.invokespecial 1, 3) := by decide +kernel
theorem dX4_init_4 : decode cX4_init 4 = .ok (.return_, 1) := by decide +kernel
set_option maxRecDepth 20000 in
theorem ggX4_melts_X10_melts : GoodIn wsX4_melts wsX10_melts := goodIn_r _ [6, 7, 8, 9, 10, 11, 12] (by decide +kernel) (by decide +kernel)
set_option maxRecDepth 20000 in
theorem gX4_melts_X10_melts_s7 : GoodIn wsX4_melts (va_wsSU RX4 7 yX10_melts wsX10_melts) := goodIn_app (goodIn_of _ (by decide +kernel)) ggX4_melts_X10_melts
theorem dX4_melts_0 : decode cX4_melts 0 = .ok (.aload_n 0, 1) := by decide +kernel
theorem dX4_melts_1 : decode cX4_melts 1 = .ok (.iload_n 1, 1) := by decide +kernel
theorem dX4_melts_2 : decode cX4_melts 2 = .ok (.invokespecial 7, 3) := by decide +kernel
theorem dX4_melts_5 : decode cX4_melts 5 = .ok (.iload_n 1, 1) := by decide +kernel
theorem dX4_melts_6 : decode cX4_melts 6 = .ok (.iadd, 1) := by decide +kernel
theorem dX4_melts_7 : decode cX4_melts 7 = .ok (.ireturn, 1) := by decide +kernel
theorem dX4_light_0 : decode cX4_light 0 = .ok (.iconst 0, 1) := by decide +kernel
theorem dX4_light_1 : decode cX4_light 1 = .ok (.ireturn, 1) := by decide +kernel
set_option maxRecDepth 20000 in
theorem ggX4_tollWith_X10_tollWith : GoodIn wsX4_tollWith wsX10_tollWith := goodIn_r _ [6, 7, 8, 9, 10, 11, 12] (by decide +kernel) (by decide +kernel)
set_option maxRecDepth 20000 in
theorem gX4_tollWith_X10_tollWith_s11 : GoodIn wsX4_tollWith (va_wsSU RX4 11 yX10_tollWith wsX10_tollWith) := goodIn_app (goodIn_of _ (by decide +kernel)) ggX4_tollWith_X10_tollWith
theorem dX4_tollWith_0 : decode cX4_tollWith 0 = .ok (.aload_n 0, 1) := by decide +kernel
theorem dX4_tollWith_1 : decode cX4_tollWith 1 = .ok (.iload_n 1, 1) := by decide +kernel
theorem dX4_tollWith_2 : decode cX4_tollWith 2 = .ok (.invokespecial 11, 3) := by decide +kernel
theorem dX4_tollWith_5 : decode cX4_tollWith 5 = .ok (.iload_n 1, 1) := by decide +kernel
theorem dX4_tollWith_6 : decode cX4_tollWith 6 = .ok (.isub, 1) := by decide +kernel
theorem dX4_tollWith_7 : decode cX4_tollWith 7 = .ok (.ireturn, 1) := by decide +kernel
set_option maxRecDepth 20000 in
theorem ggX5_init_X7_init : GoodIn wsX5_init wsX7_init := goodIn_r _ [3, 4, 5, 6] (by decide +kernel) (by decide +kernel)
set_option maxRecDepth 20000 in
theorem gX5_init_X7_init_n1 : GoodIn wsX5_init (wsX7_init) := ggX5_init_X7_init
theorem dX5_init_0 : decode cX5_init 0 = .ok (.aload_n 0, 1) := by decide +kernel
theorem dX5_init_1 : decode cX5_init 1 = .ok (.invokespecial 1, 3) := by decide +kernel
theorem dX5_init_4 : decode cX5_init 4 = .ok (.return_, 1) := by decide +kernel
set_option maxRecDepth 20000 in
theorem ggX5_fingersIn_X7_fingersIn : GoodIn wsX5_fingersIn wsX7_fingersIn := goodIn_r _ [10] (by decide +kernel) (by decide +kernel)
set_option maxRecDepth 20000 in
theorem gX5_fingersIn_X7_fingersIn_s7 : GoodIn wsX5_fingersIn (va_wsSU RX5 7 yX7_fingersIn wsX7_fingersIn) := goodIn_app (goodIn_of _ (by decide +kernel)) ggX5_fingersIn_X7_fingersIn
theorem dX5_fingersIn_0 : decode cX5_fingersIn 0 = .ok (.iconst 1, 1) := by decide +kernel
theorem dX5_fingersIn_1 : decode cX5_fingersIn 1 = .ok (.aload_n 0, 1) := by decide +kernel
theorem dX5_fingersIn_2 : decode cX5_fingersIn 2 = .ok (.iload_n 1, 1) := by decide +kernel
theorem dX5_fingersIn_3 : decode cX5_fingersIn 3 = .ok (.iload_n 2, 1) := by decide +kernel
theorem dX5_fingersIn_4 : decode cX5_fingersIn 4 = .ok (.invokespecial 7, 3) := by decide +kernel
theorem dX5_fingersIn_7 : decode cX5_fingersIn 7 = .ok (.iconst 2, 1) := by decide +kernel
theorem dX5_fingersIn_8 : decode cX5_fingersIn 8 = .ok (.idiv, 1) := by decide +kernel
theorem dX5_fingersIn_9 : decode cX5_fingersIn 9 = .ok (.invokestatic 11, 3) := by decide +kernel
theorem dX5_fingersIn_12 : decode cX5_fingersIn 12 = .ok (.ireturn, 1) := by decide +kernel
set_option maxRecDepth 20000 in
theorem ggX5_melts_X7_melts : GoodIn wsX5_melts wsX7_melts := goodIn_r _ [6] (by decide +kernel) (by decide +kernel)
set_option maxRecDepth 20000 in
theorem gX5_melts_X7_melts_s16 : GoodIn wsX5_melts (va_wsSU RX5 16 yX7_melts wsX7_melts) := goodIn_app (goodIn_of _ (by decide +kernel)) ggX5_melts_X7_melts
theorem dX5_melts_0 : decode cX5_melts 0 = .ok (.iconst 2, 1) := by decide +kernel
theorem dX5_melts_1 : decode cX5_melts 1 = .ok (.aload_n 0, 1) := by decide +kernel
theorem dX5_melts_2 : decode cX5_melts 2 = .ok (.iload_n 1, 1) := by decide +kernel
theorem dX5_melts_3 : decode cX5_melts 3 = .ok (.invokespecial 16, 3) := by decide +kernel
theorem dX5_melts_6 : decode cX5_melts 6 = .ok (.imul, 1) := by decide +kernel
theorem dX5_melts_7 : decode cX5_melts 7 = .ok (.ireturn, 1) := by decide +kernel
set_option maxRecDepth 20000 in
theorem ggX5_tollWith_X7_tollWith : GoodIn wsX5_tollWith wsX7_tollWith := goodIn_r _ [6] (by decide +kernel) (by decide +kernel)
set_option maxRecDepth 20000 in
theorem gX5_tollWith_X7_tollWith_s20 : GoodIn wsX5_tollWith (va_wsSU RX5 20 yX7_tollWith wsX7_tollWith) := goodIn_app (goodIn_of _ (by decide +kernel)) ggX5_tollWith_X7_tollWith
theorem dX5_tollWith_0 : decode cX5_tollWith 0 = .ok (.aload_n 0, 1) := by decide +kernel
theorem dX5_tollWith_1 : decode cX5_tollWith 1 = .ok (.iload_n 1, 1) := by decide +kernel
theorem dX5_tollWith_2 : decode cX5_tollWith 2 = .ok (.invokespecial 20, 3) := by decide +kernel
theorem dX5_tollWith_5 : decode cX5_tollWith 5 = .ok (.iload_n 1, 1) := by decide +kernel
theorem dX5_tollWith_6 : decode cX5_tollWith 6 = .ok (.iconst 1, 1) := by decide +kernel
theorem dX5_tollWith_7 : decode cX5_tollWith 7 = .ok (.iadd, 1) := by decide +kernel
theorem dX5_tollWith_8 : decode cX5_tollWith 8 = .ok (.imul, 1) := by decide +kernel
theorem dX5_tollWith_9 : decode cX5_tollWith 9 = .ok (.ireturn, 1) := by decide +kernel
theorem dX5_fail_0 : decode cX5_fail 0 = .ok (.return_, 1) := by decide +kernel
set_option maxRecDepth 20000 in
theorem ggX6_init_X2_init : GoodIn wsX6_init wsX2_init := goodIn_r _ [10, 11, 2, 3, 12, 13, 14, 15, 16, 17, 18, 22, 23, 24, 25, 26, 27, 28] (by decide +kernel) (by decide +kernel)
set_option maxRecDepth 20000 in
theorem gX6_init_X2_init_n21 : GoodIn wsX6_init (wsX2_init) := ggX6_init_X2_init
theorem dX6_init_0 : decode cX6_init 0 = .ok (.aload_n 0, 1) := by decide +kernel
theorem dX6_init_1 : decode cX6_init 1 = .ok (.invokespecial 3, 3) := by decide +kernel
theorem dX6_init_4 : decode cX6_init 4 = .ok (.aload_n 0, 1) := by decide +kernel
theorem dX6_init_5 : decode cX6_init 5 = .ok (.bipush 6, 2) := by decide +kernel
theorem dX6_init_7 : decode cX6_init 7 = .ok (.anewarray 9, 3) := by decide +kernel
theorem dX6_init_10 : decode cX6_init 10 = .ok (.putfield 11, 3) := by decide +kernel
theorem dX6_init_13 : decode cX6_init 13 = .ok (.aload_n 0, 1) := by decide +kernel
theorem dX6_init_14 : decode cX6_init 14 = .ok (.aload_n 1, 1) := by decide +kernel
theorem dX6_init_15 : decode cX6_init 15 = .ok (.putfield 17, 3) := by decide +kernel
theorem dX6_init_18 : decode cX6_init 18 = .ok (.iconst 0, 1) := by decide +kernel
theorem dX6_init_19 : decode cX6_init 19 = .ok (.istore_n 2, 1) := by decide +kernel
theorem dX6_init_20 : decode cX6_init 20 = .ok (.iload_n 2, 1) := by decide +kernel
theorem dX6_init_21 : decode cX6_init 21 = .ok (.bipush 6, 2) := by decide +kernel
theorem dX6_init_23 : decode cX6_init 23 = .ok (.if_icmp .ge 22, 3) := by decide +kernel
theorem dX6_init_26 : decode cX6_init 26 = .ok (.aload_n 0, 1) := by decide +kernel
theorem dX6_init_27 : decode cX6_init 27 = .ok (.getfield 11, 3) := by decide +kernel
theorem dX6_init_30 : decode cX6_init 30 = .ok (.iload_n 2, 1) := by decide +kernel
theorem dX6_init_31 : decode cX6_init 31 = .ok (.new 9, 3) := by decide +kernel
theorem dX6_init_34 : decode cX6_init 34 = .ok (.dup, 1) := by decide +kernel
theorem dX6_init_35 : decode cX6_init 35 = .ok (.invokespecial 21, 3) := by decide +kernel
theorem dX6_init_38 : decode cX6_init 38 = .ok (.aastore, 1) := by decide +kernel
theorem dX6_init_39 : decode cX6_init 39 = .ok (.iinc 2 1, 3) := by decide +kernel
theorem dX6_init_42 : decode cX6_init 42 = .ok (.goto (-22), 3) := by decide +kernel
theorem dX6_init_45 : decode cX6_init 45 = .ok (.return_, 1) := by decide +kernel
set_option maxRecDepth 20000 in
theorem ggX6_cellAt_X11_within : GoodIn wsX6_cellAt wsX11_within := goodIn_r _ [4] (by decide +kernel) (by decide +kernel)
set_option maxRecDepth 20000 in
theorem gX6_cellAt_X11_within_n22 : GoodIn wsX6_cellAt (wsX11_within) := ggX6_cellAt_X11_within
theorem dX6_cellAt_0 : decode cX6_cellAt 0 = .ok (.iload_n 1, 1) := by decide +kernel
theorem dX6_cellAt_1 : decode cX6_cellAt 1 = .ok (.iconst 0, 1) := by decide +kernel
theorem dX6_cellAt_2 : decode cX6_cellAt 2 = .ok (.iconst 5, 1) := by decide +kernel
theorem dX6_cellAt_3 : decode cX6_cellAt 3 = .ok (.invokestatic 22, 3) := by decide +kernel
theorem dX6_cellAt_6 : decode cX6_cellAt 6 = .ok (.ifCond .eq 12, 3) := by decide +kernel
theorem dX6_cellAt_9 : decode cX6_cellAt 9 = .ok (.aload_n 0, 1) := by decide +kernel
theorem dX6_cellAt_10 : decode cX6_cellAt 10 = .ok (.getfield 11, 3) := by decide +kernel
theorem dX6_cellAt_13 : decode cX6_cellAt 13 = .ok (.iload_n 1, 1) := by decide +kernel
theorem dX6_cellAt_14 : decode cX6_cellAt 14 = .ok (.aaload, 1) := by decide +kernel
theorem dX6_cellAt_15 : decode cX6_cellAt 15 = .ok (.goto 4, 3) := by decide +kernel
theorem dX6_cellAt_18 : decode cX6_cellAt 18 = .ok (.aconst_null, 1) := by decide +kernel
theorem dX6_cellAt_19 : decode cX6_cellAt 19 = .ok (.areturn, 1) := by decide +kernel
set_option maxRecDepth 20000 in
theorem ggX6_takeAll_X2_takeLayers : GoodIn wsX6_takeAll wsX2_takeLayers := goodIn_r _ [7, 8, 9, 10, 11, 12, 13, 14, 18, 19, 20, 21, 22, 23, 24] (by decide +kernel) (by decide +kernel)
set_option maxRecDepth 20000 in
theorem gX6_takeAll_X2_takeLayers : GoodIn wsX6_takeAll (wsV RX6 30 RX2 yX2_takeLayers wsX2_takeLayers) := goodIn_app (goodIn_of _ (by decide +kernel)) ggX6_takeAll_X2_takeLayers
theorem dX6_takeAll_0 : decode cX6_takeAll 0 = .ok (.aload_n 0, 1) := by decide +kernel
theorem dX6_takeAll_1 : decode cX6_takeAll 1 = .ok (.aload_n 1, 1) := by decide +kernel
theorem dX6_takeAll_2 : decode cX6_takeAll 2 = .ok (.getfield 26, 3) := by decide +kernel
theorem dX6_takeAll_5 : decode cX6_takeAll 5 = .ok (.putfield 26, 3) := by decide +kernel
theorem dX6_takeAll_8 : decode cX6_takeAll 8 = .ok (.iconst 0, 1) := by decide +kernel
theorem dX6_takeAll_9 : decode cX6_takeAll 9 = .ok (.istore_n 2, 1) := by decide +kernel
theorem dX6_takeAll_10 : decode cX6_takeAll 10 = .ok (.iload_n 2, 1) := by decide +kernel
theorem dX6_takeAll_11 : decode cX6_takeAll 11 = .ok (.bipush 6, 2) := by decide +kernel
theorem dX6_takeAll_13 : decode cX6_takeAll 13 = .ok (.if_icmp .ge 24, 3) := by decide +kernel
theorem dX6_takeAll_16 : decode cX6_takeAll 16 = .ok (.aload_n 0, 1) := by decide +kernel
theorem dX6_takeAll_17 : decode cX6_takeAll 17 = .ok (.getfield 11, 3) := by decide +kernel
theorem dX6_takeAll_20 : decode cX6_takeAll 20 = .ok (.iload_n 2, 1) := by decide +kernel
theorem dX6_takeAll_21 : decode cX6_takeAll 21 = .ok (.aaload, 1) := by decide +kernel
theorem dX6_takeAll_22 : decode cX6_takeAll 22 = .ok (.aload_n 1, 1) := by decide +kernel
theorem dX6_takeAll_23 : decode cX6_takeAll 23 = .ok (.getfield 11, 3) := by decide +kernel
theorem dX6_takeAll_26 : decode cX6_takeAll 26 = .ok (.iload_n 2, 1) := by decide +kernel
theorem dX6_takeAll_27 : decode cX6_takeAll 27 = .ok (.aaload, 1) := by decide +kernel
theorem dX6_takeAll_28 : decode cX6_takeAll 28 = .ok (.invokevirtual 30, 3) := by decide +kernel
theorem dX6_takeAll_31 : decode cX6_takeAll 31 = .ok (.iinc 2 1, 3) := by decide +kernel
theorem dX6_takeAll_34 : decode cX6_takeAll 34 = .ok (.goto (-24), 3) := by decide +kernel
theorem dX6_takeAll_37 : decode cX6_takeAll 37 = .ok (.return_, 1) := by decide +kernel
set_option maxRecDepth 20000 in
theorem ggX6_freezeIn_X6_cellAt : GoodIn wsX6_freezeIn wsX6_cellAt := goodIn_r _ [7, 8, 9, 10, 11, 142, 143, 144] (by decide +kernel) (by decide +kernel)
set_option maxRecDepth 20000 in
theorem gX6_freezeIn_X6_cellAt : GoodIn wsX6_freezeIn (wsV RX6 34 RX6 yX6_cellAt wsX6_cellAt) := goodIn_app (goodIn_of _ (by decide +kernel)) ggX6_freezeIn_X6_cellAt
set_option maxRecDepth 20000 in
theorem ggX6_freezeIn_X11_isKindAndOath : GoodIn wsX6_freezeIn wsX11_isKindAndOath := goodIn_r _ [13, 14, 9, 10, 11] (by decide +kernel) (by decide +kernel)
set_option maxRecDepth 20000 in
theorem gX6_freezeIn_X11_isKindAndOath_n38 : GoodIn wsX6_freezeIn (wsX11_isKindAndOath) := ggX6_freezeIn_X11_isKindAndOath
set_option maxRecDepth 20000 in
theorem ggX6_freezeIn_X11_within : GoodIn wsX6_freezeIn wsX11_within := goodIn_r _ [11] (by decide +kernel) (by decide +kernel)
set_option maxRecDepth 20000 in
theorem gX6_freezeIn_X11_within_n22 : GoodIn wsX6_freezeIn (wsX11_within) := ggX6_freezeIn_X11_within
set_option maxRecDepth 20000 in
theorem ggX6_freezeIn_X11_kindOf : GoodIn wsX6_freezeIn wsX11_kindOf := goodIn_r _ [16, 14, 9, 10, 11] (by decide +kernel) (by decide +kernel)
set_option maxRecDepth 20000 in
theorem gX6_freezeIn_X11_kindOf_n42 : GoodIn wsX6_freezeIn (wsX11_kindOf) := ggX6_freezeIn_X11_kindOf
set_option maxRecDepth 20000 in
theorem ggX6_freezeIn_X2_freezeOn : GoodIn wsX6_freezeIn wsX2_freezeOn := goodIn_r _ [21, 22, 23, 24, 25, 26, 27, 28, 29, 30, 31, 32, 33, 34, 35, 36, 37, 38, 39, 40, 41, 42, 43, 44, 45, 46, 47, 48, 49, 50, 51, 52, 53, 54, 55, 56, 57, 58, 59, 60, 61, 62, 63, 64, 65, 66, 67, 68, 69, 70, 71, 72, 73, 74, 75, 76, 77, 78, 79, 80, 81, 82, 83, 84, 85, 86, 87, 88, 89, 90, 91, 92, 93, 94, 95, 96, 97, 98, 99, 100, 101, 102, 103, 104, 105, 106, 107, 108, 109, 110, 111, 112, 113, 114, 115, 116, 117, 118, 119, 120, 121, 122, 123, 124, 125, 126, 127, 128, 129, 130, 131, 132, 133, 134, 135, 136, 137, 138, 139, 140, 141, 145, 146, 147, 148, 149, 150, 151] (by decide +kernel) (by decide +kernel)
set_option maxRecDepth 20000 in
theorem gX6_freezeIn_X2_freezeOn : GoodIn wsX6_freezeIn (wsV RX6 46 RX2 yX2_freezeOn wsX2_freezeOn) := goodIn_app (goodIn_of _ (by decide +kernel)) ggX6_freezeIn_X2_freezeOn
theorem dX6_freezeIn_0 : decode cX6_freezeIn 0 = .ok (.aload_n 0, 1) := by decide +kernel
theorem dX6_freezeIn_1 : decode cX6_freezeIn 1 = .ok (.iload_n 1, 1) := by decide +kernel
theorem dX6_freezeIn_2 : decode cX6_freezeIn 2 = .ok (.invokevirtual 34, 3) := by decide +kernel
theorem dX6_freezeIn_5 : decode cX6_freezeIn 5 = .ok (.astore 5, 2) := by decide +kernel
theorem dX6_freezeIn_7 : decode cX6_freezeIn 7 = .ok (.aload 5, 2) := by decide +kernel
theorem dX6_freezeIn_9 : decode cX6_freezeIn 9 = .ok (.ifnull 22, 3) := by decide +kernel
theorem dX6_freezeIn_12 : decode cX6_freezeIn 12 = .ok (.iload_n 2, 1) := by decide +kernel
theorem dX6_freezeIn_13 : decode cX6_freezeIn 13 = .ok (.iload_n 3, 1) := by decide +kernel
theorem dX6_freezeIn_14 : decode cX6_freezeIn 14 = .ok (.invokestatic 38, 3) := by decide +kernel
theorem dX6_freezeIn_17 : decode cX6_freezeIn 17 = .ok (.ifCond .eq 14, 3) := by decide +kernel
theorem dX6_freezeIn_20 : decode cX6_freezeIn 20 = .ok (.iload 4, 2) := by decide +kernel
theorem dX6_freezeIn_22 : decode cX6_freezeIn 22 = .ok (.iconst 1, 1) := by decide +kernel
theorem dX6_freezeIn_23 : decode cX6_freezeIn 23 = .ok (.bipush 9, 2) := by decide +kernel
theorem dX6_freezeIn_25 : decode cX6_freezeIn 25 = .ok (.invokestatic 22, 3) := by decide +kernel
theorem dX6_freezeIn_28 : decode cX6_freezeIn 28 = .ok (.ifCond .ne 5, 3) := by decide +kernel
theorem dX6_freezeIn_31 : decode cX6_freezeIn 31 = .ok (.iconst (-1), 1) := by decide +kernel
theorem dX6_freezeIn_32 : decode cX6_freezeIn 32 = .ok (.ireturn, 1) := by decide +kernel
theorem dX6_freezeIn_33 : decode cX6_freezeIn 33 = .ok (.aload 5, 2) := by decide +kernel
theorem dX6_freezeIn_35 : decode cX6_freezeIn 35 = .ok (.aload_n 0, 1) := by decide +kernel
theorem dX6_freezeIn_36 : decode cX6_freezeIn 36 = .ok (.getfield 17, 3) := by decide +kernel
theorem dX6_freezeIn_39 : decode cX6_freezeIn 39 = .ok (.iload_n 2, 1) := by decide +kernel
theorem dX6_freezeIn_40 : decode cX6_freezeIn 40 = .ok (.invokestatic 42, 3) := by decide +kernel
theorem dX6_freezeIn_43 : decode cX6_freezeIn 43 = .ok (.iload_n 2, 1) := by decide +kernel
theorem dX6_freezeIn_44 : decode cX6_freezeIn 44 = .ok (.iload_n 3, 1) := by decide +kernel
theorem dX6_freezeIn_45 : decode cX6_freezeIn 45 = .ok (.iload 4, 2) := by decide +kernel
theorem dX6_freezeIn_47 : decode cX6_freezeIn 47 = .ok (.aload_n 0, 1) := by decide +kernel
theorem dX6_freezeIn_48 : decode cX6_freezeIn 48 = .ok (.getfield 26, 3) := by decide +kernel
theorem dX6_freezeIn_51 : decode cX6_freezeIn 51 = .ok (.invokevirtual 46, 3) := by decide +kernel
theorem dX6_freezeIn_54 : decode cX6_freezeIn 54 = .ok (.ireturn, 1) := by decide +kernel
set_option maxRecDepth 20000 in
theorem ggX6_thawFor_X11_within : GoodIn wsX6_thawFor wsX11_within := goodIn_r _ [4] (by decide +kernel) (by decide +kernel)
set_option maxRecDepth 20000 in
theorem gX6_thawFor_X11_within_n22 : GoodIn wsX6_thawFor (wsX11_within) := ggX6_thawFor_X11_within
set_option maxRecDepth 20000 in
theorem ggX6_thawFor_X2_warmDay : GoodIn wsX6_thawFor wsX2_warmDay := goodIn_r _ [9, 10, 11, 12, 13, 14, 15, 16, 17, 8, 18, 19, 20, 21, 22, 23, 24, 25, 26, 27, 28, 29, 30, 31, 32, 36, 37, 38, 39, 40, 41, 42] (by decide +kernel) (by decide +kernel)
set_option maxRecDepth 20000 in
theorem gX6_thawFor_X2_warmDay : GoodIn wsX6_thawFor (wsV RX6 53 RX2 yX2_warmDay wsX2_warmDay) := goodIn_app (goodIn_of _ (by decide +kernel)) ggX6_thawFor_X2_warmDay
theorem dX6_thawFor_0 : decode cX6_thawFor 0 = .ok (.iload_n 1, 1) := by decide +kernel
theorem dX6_thawFor_1 : decode cX6_thawFor 1 = .ok (.iconst 1, 1) := by decide +kernel
theorem dX6_thawFor_2 : decode cX6_thawFor 2 = .ok (.bipush 99, 2) := by decide +kernel
theorem dX6_thawFor_4 : decode cX6_thawFor 4 = .ok (.invokestatic 22, 3) := by decide +kernel
theorem dX6_thawFor_7 : decode cX6_thawFor 7 = .ok (.ifCond .ne 5, 3) := by decide +kernel
theorem dX6_thawFor_10 : decode cX6_thawFor 10 = .ok (.iconst (-1), 1) := by decide +kernel
theorem dX6_thawFor_11 : decode cX6_thawFor 11 = .ok (.ireturn, 1) := by decide +kernel
theorem dX6_thawFor_12 : decode cX6_thawFor 12 = .ok (.iconst 0, 1) := by decide +kernel
theorem dX6_thawFor_13 : decode cX6_thawFor 13 = .ok (.istore_n 2, 1) := by decide +kernel
theorem dX6_thawFor_14 : decode cX6_thawFor 14 = .ok (.aload_n 0, 1) := by decide +kernel
theorem dX6_thawFor_15 : decode cX6_thawFor 15 = .ok (.getfield 11, 3) := by decide +kernel
theorem dX6_thawFor_18 : decode cX6_thawFor 18 = .ok (.astore_n 3, 1) := by decide +kernel
theorem dX6_thawFor_19 : decode cX6_thawFor 19 = .ok (.aload_n 3, 1) := by decide +kernel
theorem dX6_thawFor_20 : decode cX6_thawFor 20 = .ok (.arraylength, 1) := by decide +kernel
theorem dX6_thawFor_21 : decode cX6_thawFor 21 = .ok (.istore 4, 2) := by decide +kernel
theorem dX6_thawFor_23 : decode cX6_thawFor 23 = .ok (.iconst 0, 1) := by decide +kernel
theorem dX6_thawFor_24 : decode cX6_thawFor 24 = .ok (.istore 5, 2) := by decide +kernel
theorem dX6_thawFor_26 : decode cX6_thawFor 26 = .ok (.iload 5, 2) := by decide +kernel
theorem dX6_thawFor_28 : decode cX6_thawFor 28 = .ok (.iload 4, 2) := by decide +kernel
theorem dX6_thawFor_30 : decode cX6_thawFor 30 = .ok (.if_icmp .ge 46, 3) := by decide +kernel
theorem dX6_thawFor_33 : decode cX6_thawFor 33 = .ok (.aload_n 3, 1) := by decide +kernel
theorem dX6_thawFor_34 : decode cX6_thawFor 34 = .ok (.iload 5, 2) := by decide +kernel
theorem dX6_thawFor_36 : decode cX6_thawFor 36 = .ok (.aaload, 1) := by decide +kernel
theorem dX6_thawFor_37 : decode cX6_thawFor 37 = .ok (.astore 6, 2) := by decide +kernel
theorem dX6_thawFor_39 : decode cX6_thawFor 39 = .ok (.iconst 0, 1) := by decide +kernel
theorem dX6_thawFor_40 : decode cX6_thawFor 40 = .ok (.istore 7, 2) := by decide +kernel
theorem dX6_thawFor_42 : decode cX6_thawFor 42 = .ok (.iload 7, 2) := by decide +kernel
theorem dX6_thawFor_44 : decode cX6_thawFor 44 = .ok (.iload_n 1, 1) := by decide +kernel
theorem dX6_thawFor_45 : decode cX6_thawFor 45 = .ok (.if_icmp .ge 25, 3) := by decide +kernel
theorem dX6_thawFor_48 : decode cX6_thawFor 48 = .ok (.aload 6, 2) := by decide +kernel
theorem dX6_thawFor_50 : decode cX6_thawFor 50 = .ok (.getfield 50, 3) := by decide +kernel
theorem dX6_thawFor_53 : decode cX6_thawFor 53 = .ok (.ifCond .le 17, 3) := by decide +kernel
theorem dX6_thawFor_56 : decode cX6_thawFor 56 = .ok (.iload_n 2, 1) := by decide +kernel
theorem dX6_thawFor_57 : decode cX6_thawFor 57 = .ok (.aload 6, 2) := by decide +kernel
theorem dX6_thawFor_59 : decode cX6_thawFor 59 = .ok (.invokevirtual 53, 3) := by decide +kernel
theorem dX6_thawFor_62 : decode cX6_thawFor 62 = .ok (.iadd, 1) := by decide +kernel
theorem dX6_thawFor_63 : decode cX6_thawFor 63 = .ok (.istore_n 2, 1) := by decide +kernel
theorem dX6_thawFor_64 : decode cX6_thawFor 64 = .ok (.iinc 7 1, 3) := by decide +kernel
theorem dX6_thawFor_67 : decode cX6_thawFor 67 = .ok (.goto (-25), 3) := by decide +kernel
theorem dX6_thawFor_70 : decode cX6_thawFor 70 = .ok (.iinc 5 1, 3) := by decide +kernel
theorem dX6_thawFor_73 : decode cX6_thawFor 73 = .ok (.goto (-47), 3) := by decide +kernel
theorem dX6_thawFor_76 : decode cX6_thawFor 76 = .ok (.iload_n 2, 1) := by decide +kernel
theorem dX6_thawFor_77 : decode cX6_thawFor 77 = .ok (.ireturn, 1) := by decide +kernel
set_option maxRecDepth 20000 in
theorem ggX6_cutIn_X6_cellAt : GoodIn wsX6_cutIn wsX6_cellAt := goodIn_r _ [5, 6, 7, 8, 9, 29, 30, 31] (by decide +kernel) (by decide +kernel)
set_option maxRecDepth 20000 in
theorem gX6_cutIn_X6_cellAt : GoodIn wsX6_cutIn (wsV RX6 34 RX6 yX6_cellAt wsX6_cellAt) := goodIn_app (goodIn_of _ (by decide +kernel)) ggX6_cutIn_X6_cellAt
set_option maxRecDepth 20000 in
theorem ggX6_cutIn_X11_within : GoodIn wsX6_cutIn wsX11_within := goodIn_r _ [9] (by decide +kernel) (by decide +kernel)
set_option maxRecDepth 20000 in
theorem gX6_cutIn_X11_within_n22 : GoodIn wsX6_cutIn (wsX11_within) := ggX6_cutIn_X11_within
set_option maxRecDepth 20000 in
theorem ggX6_cutIn_X2_cutOff : GoodIn wsX6_cutIn wsX2_cutOff := goodIn_r _ [14, 15, 16, 17, 18, 19, 20, 21, 22, 23, 13, 24, 25, 26, 27, 28, 32, 33, 34, 35, 36, 37, 38] (by decide +kernel) (by decide +kernel)
set_option maxRecDepth 20000 in
theorem gX6_cutIn_X2_cutOff : GoodIn wsX6_cutIn (wsV RX6 57 RX2 yX2_cutOff wsX2_cutOff) := goodIn_app (goodIn_of _ (by decide +kernel)) ggX6_cutIn_X2_cutOff
theorem dX6_cutIn_0 : decode cX6_cutIn 0 = .ok (.aload_n 0, 1) := by decide +kernel
theorem dX6_cutIn_1 : decode cX6_cutIn 1 = .ok (.iload_n 1, 1) := by decide +kernel
theorem dX6_cutIn_2 : decode cX6_cutIn 2 = .ok (.invokevirtual 34, 3) := by decide +kernel
theorem dX6_cutIn_5 : decode cX6_cutIn 5 = .ok (.astore_n 3, 1) := by decide +kernel
theorem dX6_cutIn_6 : decode cX6_cutIn 6 = .ok (.aload_n 3, 1) := by decide +kernel
theorem dX6_cutIn_7 : decode cX6_cutIn 7 = .ok (.ifnull 13, 3) := by decide +kernel
theorem dX6_cutIn_10 : decode cX6_cutIn 10 = .ok (.iload_n 2, 1) := by decide +kernel
theorem dX6_cutIn_11 : decode cX6_cutIn 11 = .ok (.iconst 1, 1) := by decide +kernel
theorem dX6_cutIn_12 : decode cX6_cutIn 12 = .ok (.bipush 99, 2) := by decide +kernel
theorem dX6_cutIn_14 : decode cX6_cutIn 14 = .ok (.invokestatic 22, 3) := by decide +kernel
theorem dX6_cutIn_17 : decode cX6_cutIn 17 = .ok (.ifCond .ne 7, 3) := by decide +kernel
theorem dX6_cutIn_20 : decode cX6_cutIn 20 = .ok (.iconst (-1), 1) := by decide +kernel
theorem dX6_cutIn_21 : decode cX6_cutIn 21 = .ok (.goto 8, 3) := by decide +kernel
theorem dX6_cutIn_24 : decode cX6_cutIn 24 = .ok (.aload_n 3, 1) := by decide +kernel
theorem dX6_cutIn_25 : decode cX6_cutIn 25 = .ok (.iload_n 2, 1) := by decide +kernel
theorem dX6_cutIn_26 : decode cX6_cutIn 26 = .ok (.invokevirtual 57, 3) := by decide +kernel
theorem dX6_cutIn_29 : decode cX6_cutIn 29 = .ok (.ireturn, 1) := by decide +kernel
theorem dX6_driftOn_0 : decode cX6_driftOn 0 = .ok (.aload_n 0, 1) := by decide +kernel
theorem dX6_driftOn_1 : decode cX6_driftOn 1 = .ok (.getfield 11, 3) := by decide +kernel
theorem dX6_driftOn_4 : decode cX6_driftOn 4 = .ok (.iconst 5, 1) := by decide +kernel
theorem dX6_driftOn_5 : decode cX6_driftOn 5 = .ok (.aaload, 1) := by decide +kernel
theorem dX6_driftOn_6 : decode cX6_driftOn 6 = .ok (.astore_n 1, 1) := by decide +kernel
theorem dX6_driftOn_7 : decode cX6_driftOn 7 = .ok (.iconst 5, 1) := by decide +kernel
theorem dX6_driftOn_8 : decode cX6_driftOn 8 = .ok (.istore_n 2, 1) := by decide +kernel
theorem dX6_driftOn_9 : decode cX6_driftOn 9 = .ok (.iload_n 2, 1) := by decide +kernel
theorem dX6_driftOn_10 : decode cX6_driftOn 10 = .ok (.ifCond .le 23, 3) := by decide +kernel
theorem dX6_driftOn_13 : decode cX6_driftOn 13 = .ok (.aload_n 0, 1) := by decide +kernel
theorem dX6_driftOn_14 : decode cX6_driftOn 14 = .ok (.getfield 11, 3) := by decide +kernel
theorem dX6_driftOn_17 : decode cX6_driftOn 17 = .ok (.iload_n 2, 1) := by decide +kernel
theorem dX6_driftOn_18 : decode cX6_driftOn 18 = .ok (.aload_n 0, 1) := by decide +kernel
theorem dX6_driftOn_19 : decode cX6_driftOn 19 = .ok (.getfield 11, 3) := by decide +kernel
theorem dX6_driftOn_22 : decode cX6_driftOn 22 = .ok (.iload_n 2, 1) := by decide +kernel
theorem dX6_driftOn_23 : decode cX6_driftOn 23 = .ok (.iconst 1, 1) := by decide +kernel
theorem dX6_driftOn_24 : decode cX6_driftOn 24 = .ok (.isub, 1) := by decide +kernel
theorem dX6_driftOn_25 : decode cX6_driftOn 25 = .ok (.aaload, 1) := by decide +kernel
theorem dX6_driftOn_26 : decode cX6_driftOn 26 = .ok (.aastore, 1) := by decide +kernel
theorem dX6_driftOn_27 : decode cX6_driftOn 27 = .ok (.iinc 2 (-1), 3) := by decide +kernel
theorem dX6_driftOn_30 : decode cX6_driftOn 30 = .ok (.goto (-21), 3) := by decide +kernel
theorem dX6_driftOn_33 : decode cX6_driftOn 33 = .ok (.aload_n 0, 1) := by decide +kernel
theorem dX6_driftOn_34 : decode cX6_driftOn 34 = .ok (.getfield 11, 3) := by decide +kernel
theorem dX6_driftOn_37 : decode cX6_driftOn 37 = .ok (.iconst 0, 1) := by decide +kernel
theorem dX6_driftOn_38 : decode cX6_driftOn 38 = .ok (.aload_n 1, 1) := by decide +kernel
theorem dX6_driftOn_39 : decode cX6_driftOn 39 = .ok (.aastore, 1) := by decide +kernel
theorem dX6_driftOn_40 : decode cX6_driftOn 40 = .ok (.aload_n 1, 1) := by decide +kernel
theorem dX6_driftOn_41 : decode cX6_driftOn 41 = .ok (.getfield 50, 3) := by decide +kernel
theorem dX6_driftOn_44 : decode cX6_driftOn 44 = .ok (.ireturn, 1) := by decide +kernel
theorem dX6_nextWinter_0 : decode cX6_nextWinter 0 = .ok (.aload_n 0, 1) := by decide +kernel
theorem dX6_nextWinter_1 : decode cX6_nextWinter 1 = .ok (.getfield 26, 3) := by decide +kernel
theorem dX6_nextWinter_4 : decode cX6_nextWinter 4 = .ok (.bipush 99, 2) := by decide +kernel
theorem dX6_nextWinter_6 : decode cX6_nextWinter 6 = .ok (.if_icmp .lt 6, 3) := by decide +kernel
theorem dX6_nextWinter_9 : decode cX6_nextWinter 9 = .ok (.bipush (-2), 2) := by decide +kernel
theorem dX6_nextWinter_11 : decode cX6_nextWinter 11 = .ok (.ireturn, 1) := by decide +kernel
theorem dX6_nextWinter_12 : decode cX6_nextWinter 12 = .ok (.aload_n 0, 1) := by decide +kernel
theorem dX6_nextWinter_13 : decode cX6_nextWinter 13 = .ok (.dup, 1) := by decide +kernel
theorem dX6_nextWinter_14 : decode cX6_nextWinter 14 = .ok (.getfield 26, 3) := by decide +kernel
theorem dX6_nextWinter_17 : decode cX6_nextWinter 17 = .ok (.iconst 1, 1) := by decide +kernel
theorem dX6_nextWinter_18 : decode cX6_nextWinter 18 = .ok (.iadd, 1) := by decide +kernel
theorem dX6_nextWinter_19 : decode cX6_nextWinter 19 = .ok (.putfield 26, 3) := by decide +kernel
theorem dX6_nextWinter_22 : decode cX6_nextWinter 22 = .ok (.aload_n 0, 1) := by decide +kernel
theorem dX6_nextWinter_23 : decode cX6_nextWinter 23 = .ok (.getfield 26, 3) := by decide +kernel
theorem dX6_nextWinter_26 : decode cX6_nextWinter 26 = .ok (.ireturn, 1) := by decide +kernel
theorem dX6_allLayers_0 : decode cX6_allLayers 0 = .ok (.iconst 0, 1) := by decide +kernel
theorem dX6_allLayers_1 : decode cX6_allLayers 1 = .ok (.istore_n 1, 1) := by decide +kernel
theorem dX6_allLayers_2 : decode cX6_allLayers 2 = .ok (.aload_n 0, 1) := by decide +kernel
theorem dX6_allLayers_3 : decode cX6_allLayers 3 = .ok (.getfield 11, 3) := by decide +kernel
theorem dX6_allLayers_6 : decode cX6_allLayers 6 = .ok (.astore_n 2, 1) := by decide +kernel
theorem dX6_allLayers_7 : decode cX6_allLayers 7 = .ok (.aload_n 2, 1) := by decide +kernel
theorem dX6_allLayers_8 : decode cX6_allLayers 8 = .ok (.arraylength, 1) := by decide +kernel
theorem dX6_allLayers_9 : decode cX6_allLayers 9 = .ok (.istore_n 3, 1) := by decide +kernel
theorem dX6_allLayers_10 : decode cX6_allLayers 10 = .ok (.iconst 0, 1) := by decide +kernel
theorem dX6_allLayers_11 : decode cX6_allLayers 11 = .ok (.istore 4, 2) := by decide +kernel
theorem dX6_allLayers_13 : decode cX6_allLayers 13 = .ok (.iload 4, 2) := by decide +kernel
theorem dX6_allLayers_15 : decode cX6_allLayers 15 = .ok (.iload_n 3, 1) := by decide +kernel
theorem dX6_allLayers_16 : decode cX6_allLayers 16 = .ok (.if_icmp .ge 23, 3) := by decide +kernel
theorem dX6_allLayers_19 : decode cX6_allLayers 19 = .ok (.aload_n 2, 1) := by decide +kernel
theorem dX6_allLayers_20 : decode cX6_allLayers 20 = .ok (.iload 4, 2) := by decide +kernel
theorem dX6_allLayers_22 : decode cX6_allLayers 22 = .ok (.aaload, 1) := by decide +kernel
theorem dX6_allLayers_23 : decode cX6_allLayers 23 = .ok (.astore 5, 2) := by decide +kernel
theorem dX6_allLayers_25 : decode cX6_allLayers 25 = .ok (.iload_n 1, 1) := by decide +kernel
theorem dX6_allLayers_26 : decode cX6_allLayers 26 = .ok (.aload 5, 2) := by decide +kernel
theorem dX6_allLayers_28 : decode cX6_allLayers 28 = .ok (.getfield 50, 3) := by decide +kernel
theorem dX6_allLayers_31 : decode cX6_allLayers 31 = .ok (.iadd, 1) := by decide +kernel
theorem dX6_allLayers_32 : decode cX6_allLayers 32 = .ok (.istore_n 1, 1) := by decide +kernel
theorem dX6_allLayers_33 : decode cX6_allLayers 33 = .ok (.iinc 4 1, 3) := by decide +kernel
theorem dX6_allLayers_36 : decode cX6_allLayers 36 = .ok (.goto (-23), 3) := by decide +kernel
theorem dX6_allLayers_39 : decode cX6_allLayers 39 = .ok (.iload_n 1, 1) := by decide +kernel
theorem dX6_allLayers_40 : decode cX6_allLayers 40 = .ok (.ireturn, 1) := by decide +kernel
set_option maxRecDepth 20000 in
theorem ggX6_allIce_X2_ice : GoodIn wsX6_allIce wsX2_ice := goodIn_r _ [6, 7, 8, 9, 5, 10, 11, 12, 13, 14, 15, 16, 17, 18, 19, 20, 24, 25, 26, 27, 28, 29, 30] (by decide +kernel) (by decide +kernel)
set_option maxRecDepth 20000 in
theorem gX6_allIce_X2_ice : GoodIn wsX6_allIce (wsV RX6 61 RX2 yX2_ice wsX2_ice) := goodIn_app (goodIn_of _ (by decide +kernel)) ggX6_allIce_X2_ice
theorem dX6_allIce_0 : decode cX6_allIce 0 = .ok (.iconst 0, 1) := by decide +kernel
theorem dX6_allIce_1 : decode cX6_allIce 1 = .ok (.istore_n 1, 1) := by decide +kernel
theorem dX6_allIce_2 : decode cX6_allIce 2 = .ok (.aload_n 0, 1) := by decide +kernel
theorem dX6_allIce_3 : decode cX6_allIce 3 = .ok (.getfield 11, 3) := by decide +kernel
theorem dX6_allIce_6 : decode cX6_allIce 6 = .ok (.astore_n 2, 1) := by decide +kernel
theorem dX6_allIce_7 : decode cX6_allIce 7 = .ok (.aload_n 2, 1) := by decide +kernel
theorem dX6_allIce_8 : decode cX6_allIce 8 = .ok (.arraylength, 1) := by decide +kernel
theorem dX6_allIce_9 : decode cX6_allIce 9 = .ok (.istore_n 3, 1) := by decide +kernel
theorem dX6_allIce_10 : decode cX6_allIce 10 = .ok (.iconst 0, 1) := by decide +kernel
theorem dX6_allIce_11 : decode cX6_allIce 11 = .ok (.istore 4, 2) := by decide +kernel
theorem dX6_allIce_13 : decode cX6_allIce 13 = .ok (.iload 4, 2) := by decide +kernel
theorem dX6_allIce_15 : decode cX6_allIce 15 = .ok (.iload_n 3, 1) := by decide +kernel
theorem dX6_allIce_16 : decode cX6_allIce 16 = .ok (.if_icmp .ge 23, 3) := by decide +kernel
theorem dX6_allIce_19 : decode cX6_allIce 19 = .ok (.aload_n 2, 1) := by decide +kernel
theorem dX6_allIce_20 : decode cX6_allIce 20 = .ok (.iload 4, 2) := by decide +kernel
theorem dX6_allIce_22 : decode cX6_allIce 22 = .ok (.aaload, 1) := by decide +kernel
theorem dX6_allIce_23 : decode cX6_allIce 23 = .ok (.astore 5, 2) := by decide +kernel
theorem dX6_allIce_25 : decode cX6_allIce 25 = .ok (.iload_n 1, 1) := by decide +kernel
theorem dX6_allIce_26 : decode cX6_allIce 26 = .ok (.aload 5, 2) := by decide +kernel
theorem dX6_allIce_28 : decode cX6_allIce 28 = .ok (.invokevirtual 61, 3) := by decide +kernel
theorem dX6_allIce_31 : decode cX6_allIce 31 = .ok (.iadd, 1) := by decide +kernel
theorem dX6_allIce_32 : decode cX6_allIce 32 = .ok (.istore_n 1, 1) := by decide +kernel
theorem dX6_allIce_33 : decode cX6_allIce 33 = .ok (.iinc 4 1, 3) := by decide +kernel
theorem dX6_allIce_36 : decode cX6_allIce 36 = .ok (.goto (-23), 3) := by decide +kernel
theorem dX6_allIce_39 : decode cX6_allIce 39 = .ok (.iload_n 1, 1) := by decide +kernel
theorem dX6_allIce_40 : decode cX6_allIce 40 = .ok (.ireturn, 1) := by decide +kernel
set_option maxRecDepth 20000 in
theorem ggX6_allReadable_X2_readableLayers : GoodIn wsX6_allReadable wsX2_readableLayers := goodIn_r _ [6, 7, 8, 9, 10, 5, 11, 12, 13, 14, 15, 16, 17, 18, 19, 20, 21, 22, 23, 24, 25, 26, 27, 28, 29, 33, 34, 35, 36, 37, 38, 39] (by decide +kernel) (by decide +kernel)
set_option maxRecDepth 20000 in
theorem gX6_allReadable_X2_readableLayers : GoodIn wsX6_allReadable (wsV RX6 64 RX2 yX2_readableLayers wsX2_readableLayers) := goodIn_app (goodIn_of _ (by decide +kernel)) ggX6_allReadable_X2_readableLayers
theorem dX6_allReadable_0 : decode cX6_allReadable 0 = .ok (.iconst 0, 1) := by decide +kernel
theorem dX6_allReadable_1 : decode cX6_allReadable 1 = .ok (.istore_n 1, 1) := by decide +kernel
theorem dX6_allReadable_2 : decode cX6_allReadable 2 = .ok (.aload_n 0, 1) := by decide +kernel
theorem dX6_allReadable_3 : decode cX6_allReadable 3 = .ok (.getfield 11, 3) := by decide +kernel
theorem dX6_allReadable_6 : decode cX6_allReadable 6 = .ok (.astore_n 2, 1) := by decide +kernel
theorem dX6_allReadable_7 : decode cX6_allReadable 7 = .ok (.aload_n 2, 1) := by decide +kernel
theorem dX6_allReadable_8 : decode cX6_allReadable 8 = .ok (.arraylength, 1) := by decide +kernel
theorem dX6_allReadable_9 : decode cX6_allReadable 9 = .ok (.istore_n 3, 1) := by decide +kernel
theorem dX6_allReadable_10 : decode cX6_allReadable 10 = .ok (.iconst 0, 1) := by decide +kernel
theorem dX6_allReadable_11 : decode cX6_allReadable 11 = .ok (.istore 4, 2) := by decide +kernel
theorem dX6_allReadable_13 : decode cX6_allReadable 13 = .ok (.iload 4, 2) := by decide +kernel
theorem dX6_allReadable_15 : decode cX6_allReadable 15 = .ok (.iload_n 3, 1) := by decide +kernel
theorem dX6_allReadable_16 : decode cX6_allReadable 16 = .ok (.if_icmp .ge 23, 3) := by decide +kernel
theorem dX6_allReadable_19 : decode cX6_allReadable 19 = .ok (.aload_n 2, 1) := by decide +kernel
theorem dX6_allReadable_20 : decode cX6_allReadable 20 = .ok (.iload 4, 2) := by decide +kernel
theorem dX6_allReadable_22 : decode cX6_allReadable 22 = .ok (.aaload, 1) := by decide +kernel
theorem dX6_allReadable_23 : decode cX6_allReadable 23 = .ok (.astore 5, 2) := by decide +kernel
theorem dX6_allReadable_25 : decode cX6_allReadable 25 = .ok (.iload_n 1, 1) := by decide +kernel
theorem dX6_allReadable_26 : decode cX6_allReadable 26 = .ok (.aload 5, 2) := by decide +kernel
theorem dX6_allReadable_28 : decode cX6_allReadable 28 = .ok (.invokevirtual 64, 3) := by decide +kernel
theorem dX6_allReadable_31 : decode cX6_allReadable 31 = .ok (.iadd, 1) := by decide +kernel
theorem dX6_allReadable_32 : decode cX6_allReadable 32 = .ok (.istore_n 1, 1) := by decide +kernel
theorem dX6_allReadable_33 : decode cX6_allReadable 33 = .ok (.iinc 4 1, 3) := by decide +kernel
theorem dX6_allReadable_36 : decode cX6_allReadable 36 = .ok (.goto (-23), 3) := by decide +kernel
theorem dX6_allReadable_39 : decode cX6_allReadable 39 = .ok (.iload_n 1, 1) := by decide +kernel
theorem dX6_allReadable_40 : decode cX6_allReadable 40 = .ok (.ireturn, 1) := by decide +kernel
set_option maxRecDepth 20000 in
theorem ggX6_allOaths_X2_oaths : GoodIn wsX6_allOaths wsX2_oaths := goodIn_r _ [6, 7, 8, 9, 10, 5, 11, 12, 13, 14, 15, 16, 20, 21, 22, 23, 24, 25, 26] (by decide +kernel) (by decide +kernel)
set_option maxRecDepth 20000 in
theorem gX6_allOaths_X2_oaths : GoodIn wsX6_allOaths (wsV RX6 67 RX2 yX2_oaths wsX2_oaths) := goodIn_app (goodIn_of _ (by decide +kernel)) ggX6_allOaths_X2_oaths
theorem dX6_allOaths_0 : decode cX6_allOaths 0 = .ok (.iconst 0, 1) := by decide +kernel
theorem dX6_allOaths_1 : decode cX6_allOaths 1 = .ok (.istore_n 1, 1) := by decide +kernel
theorem dX6_allOaths_2 : decode cX6_allOaths 2 = .ok (.aload_n 0, 1) := by decide +kernel
theorem dX6_allOaths_3 : decode cX6_allOaths 3 = .ok (.getfield 11, 3) := by decide +kernel
theorem dX6_allOaths_6 : decode cX6_allOaths 6 = .ok (.astore_n 2, 1) := by decide +kernel
theorem dX6_allOaths_7 : decode cX6_allOaths 7 = .ok (.aload_n 2, 1) := by decide +kernel
theorem dX6_allOaths_8 : decode cX6_allOaths 8 = .ok (.arraylength, 1) := by decide +kernel
theorem dX6_allOaths_9 : decode cX6_allOaths 9 = .ok (.istore_n 3, 1) := by decide +kernel
theorem dX6_allOaths_10 : decode cX6_allOaths 10 = .ok (.iconst 0, 1) := by decide +kernel
theorem dX6_allOaths_11 : decode cX6_allOaths 11 = .ok (.istore 4, 2) := by decide +kernel
theorem dX6_allOaths_13 : decode cX6_allOaths 13 = .ok (.iload 4, 2) := by decide +kernel
theorem dX6_allOaths_15 : decode cX6_allOaths 15 = .ok (.iload_n 3, 1) := by decide +kernel
theorem dX6_allOaths_16 : decode cX6_allOaths 16 = .ok (.if_icmp .ge 23, 3) := by decide +kernel
theorem dX6_allOaths_19 : decode cX6_allOaths 19 = .ok (.aload_n 2, 1) := by decide +kernel
theorem dX6_allOaths_20 : decode cX6_allOaths 20 = .ok (.iload 4, 2) := by decide +kernel
theorem dX6_allOaths_22 : decode cX6_allOaths 22 = .ok (.aaload, 1) := by decide +kernel
theorem dX6_allOaths_23 : decode cX6_allOaths 23 = .ok (.astore 5, 2) := by decide +kernel
theorem dX6_allOaths_25 : decode cX6_allOaths 25 = .ok (.iload_n 1, 1) := by decide +kernel
theorem dX6_allOaths_26 : decode cX6_allOaths 26 = .ok (.aload 5, 2) := by decide +kernel
theorem dX6_allOaths_28 : decode cX6_allOaths 28 = .ok (.invokevirtual 67, 3) := by decide +kernel
theorem dX6_allOaths_31 : decode cX6_allOaths 31 = .ok (.ior, 1) := by decide +kernel
theorem dX6_allOaths_32 : decode cX6_allOaths 32 = .ok (.istore_n 1, 1) := by decide +kernel
theorem dX6_allOaths_33 : decode cX6_allOaths 33 = .ok (.iinc 4 1, 3) := by decide +kernel
theorem dX6_allOaths_36 : decode cX6_allOaths 36 = .ok (.goto (-23), 3) := by decide +kernel
theorem dX6_allOaths_39 : decode cX6_allOaths 39 = .ok (.iload_n 1, 1) := by decide +kernel
theorem dX6_allOaths_40 : decode cX6_allOaths 40 = .ok (.ireturn, 1) := by decide +kernel
set_option maxRecDepth 20000 in
theorem ggX6_allUnordered_X2_unorderedPairs : GoodIn wsX6_allUnordered wsX2_unorderedPairs := goodIn_r _ [6, 7, 8, 9, 10, 5, 11, 12, 13, 14, 15, 16, 20, 21, 22, 23, 24, 25, 26] (by decide +kernel) (by decide +kernel)
set_option maxRecDepth 20000 in
theorem gX6_allUnordered_X2_unorderedPairs : GoodIn wsX6_allUnordered (wsV RX6 70 RX2 yX2_unorderedPairs wsX2_unorderedPairs) := goodIn_app (goodIn_of _ (by decide +kernel)) ggX6_allUnordered_X2_unorderedPairs
theorem dX6_allUnordered_0 : decode cX6_allUnordered 0 = .ok (.iconst 0, 1) := by decide +kernel
theorem dX6_allUnordered_1 : decode cX6_allUnordered 1 = .ok (.istore_n 1, 1) := by decide +kernel
theorem dX6_allUnordered_2 : decode cX6_allUnordered 2 = .ok (.aload_n 0, 1) := by decide +kernel
theorem dX6_allUnordered_3 : decode cX6_allUnordered 3 = .ok (.getfield 11, 3) := by decide +kernel
theorem dX6_allUnordered_6 : decode cX6_allUnordered 6 = .ok (.astore_n 2, 1) := by decide +kernel
theorem dX6_allUnordered_7 : decode cX6_allUnordered 7 = .ok (.aload_n 2, 1) := by decide +kernel
theorem dX6_allUnordered_8 : decode cX6_allUnordered 8 = .ok (.arraylength, 1) := by decide +kernel
theorem dX6_allUnordered_9 : decode cX6_allUnordered 9 = .ok (.istore_n 3, 1) := by decide +kernel
theorem dX6_allUnordered_10 : decode cX6_allUnordered 10 = .ok (.iconst 0, 1) := by decide +kernel
theorem dX6_allUnordered_11 : decode cX6_allUnordered 11 = .ok (.istore 4, 2) := by decide +kernel
theorem dX6_allUnordered_13 : decode cX6_allUnordered 13 = .ok (.iload 4, 2) := by decide +kernel
theorem dX6_allUnordered_15 : decode cX6_allUnordered 15 = .ok (.iload_n 3, 1) := by decide +kernel
theorem dX6_allUnordered_16 : decode cX6_allUnordered 16 = .ok (.if_icmp .ge 23, 3) := by decide +kernel
theorem dX6_allUnordered_19 : decode cX6_allUnordered 19 = .ok (.aload_n 2, 1) := by decide +kernel
theorem dX6_allUnordered_20 : decode cX6_allUnordered 20 = .ok (.iload 4, 2) := by decide +kernel
theorem dX6_allUnordered_22 : decode cX6_allUnordered 22 = .ok (.aaload, 1) := by decide +kernel
theorem dX6_allUnordered_23 : decode cX6_allUnordered 23 = .ok (.astore 5, 2) := by decide +kernel
theorem dX6_allUnordered_25 : decode cX6_allUnordered 25 = .ok (.iload_n 1, 1) := by decide +kernel
theorem dX6_allUnordered_26 : decode cX6_allUnordered 26 = .ok (.aload 5, 2) := by decide +kernel
theorem dX6_allUnordered_28 : decode cX6_allUnordered 28 = .ok (.invokevirtual 70, 3) := by decide +kernel
theorem dX6_allUnordered_31 : decode cX6_allUnordered 31 = .ok (.iadd, 1) := by decide +kernel
theorem dX6_allUnordered_32 : decode cX6_allUnordered 32 = .ok (.istore_n 1, 1) := by decide +kernel
theorem dX6_allUnordered_33 : decode cX6_allUnordered 33 = .ok (.iinc 4 1, 3) := by decide +kernel
theorem dX6_allUnordered_36 : decode cX6_allUnordered 36 = .ok (.goto (-23), 3) := by decide +kernel
theorem dX6_allUnordered_39 : decode cX6_allUnordered 39 = .ok (.iload_n 1, 1) := by decide +kernel
theorem dX6_allUnordered_40 : decode cX6_allUnordered 40 = .ok (.ireturn, 1) := by decide +kernel
set_option maxRecDepth 20000 in
theorem ggX6_latestOf_X2_oathAt : GoodIn wsX6_latestOf wsX2_oathAt := goodIn_r _ [6, 7, 8, 9, 10, 5, 11, 12, 21, 22, 23, 24, 25, 26, 27] (by decide +kernel) (by decide +kernel)
set_option maxRecDepth 20000 in
theorem gX6_latestOf_X2_oathAt : GoodIn wsX6_latestOf (wsV RX6 73 RX2 yX2_oathAt wsX2_oathAt) := goodIn_app (goodIn_of _ (by decide +kernel)) ggX6_latestOf_X2_oathAt
set_option maxRecDepth 20000 in
theorem ggX6_latestOf_X2_winterAt : GoodIn wsX6_latestOf wsX2_winterAt := goodIn_r _ [16, 17, 8, 9, 10, 5, 11, 12, 21, 22, 23, 24, 25, 26, 27] (by decide +kernel) (by decide +kernel)
set_option maxRecDepth 20000 in
theorem gX6_latestOf_X2_winterAt : GoodIn wsX6_latestOf (wsV RX6 76 RX2 yX2_winterAt wsX2_winterAt) := goodIn_app (goodIn_of _ (by decide +kernel)) ggX6_latestOf_X2_winterAt
theorem dX6_latestOf_0 : decode cX6_latestOf 0 = .ok (.bipush (-4), 2) := by decide +kernel
theorem dX6_latestOf_2 : decode cX6_latestOf 2 = .ok (.istore_n 2, 1) := by decide +kernel
theorem dX6_latestOf_3 : decode cX6_latestOf 3 = .ok (.iconst (-1), 1) := by decide +kernel
theorem dX6_latestOf_4 : decode cX6_latestOf 4 = .ok (.istore_n 3, 1) := by decide +kernel
theorem dX6_latestOf_5 : decode cX6_latestOf 5 = .ok (.iconst 0, 1) := by decide +kernel
theorem dX6_latestOf_6 : decode cX6_latestOf 6 = .ok (.istore 4, 2) := by decide +kernel
theorem dX6_latestOf_8 : decode cX6_latestOf 8 = .ok (.iload 4, 2) := by decide +kernel
theorem dX6_latestOf_10 : decode cX6_latestOf 10 = .ok (.bipush 6, 2) := by decide +kernel
theorem dX6_latestOf_12 : decode cX6_latestOf 12 = .ok (.if_icmp .ge 77, 3) := by decide +kernel
theorem dX6_latestOf_15 : decode cX6_latestOf 15 = .ok (.aload_n 0, 1) := by decide +kernel
theorem dX6_latestOf_16 : decode cX6_latestOf 16 = .ok (.getfield 11, 3) := by decide +kernel
theorem dX6_latestOf_19 : decode cX6_latestOf 19 = .ok (.iload 4, 2) := by decide +kernel
theorem dX6_latestOf_21 : decode cX6_latestOf 21 = .ok (.aaload, 1) := by decide +kernel
theorem dX6_latestOf_22 : decode cX6_latestOf 22 = .ok (.astore 5, 2) := by decide +kernel
theorem dX6_latestOf_24 : decode cX6_latestOf 24 = .ok (.aload 5, 2) := by decide +kernel
theorem dX6_latestOf_26 : decode cX6_latestOf 26 = .ok (.getfield 50, 3) := by decide +kernel
theorem dX6_latestOf_29 : decode cX6_latestOf 29 = .ok (.iconst 1, 1) := by decide +kernel
theorem dX6_latestOf_30 : decode cX6_latestOf 30 = .ok (.isub, 1) := by decide +kernel
theorem dX6_latestOf_31 : decode cX6_latestOf 31 = .ok (.istore 6, 2) := by decide +kernel
theorem dX6_latestOf_33 : decode cX6_latestOf 33 = .ok (.iload 6, 2) := by decide +kernel
theorem dX6_latestOf_35 : decode cX6_latestOf 35 = .ok (.ifCond .lt 48, 3) := by decide +kernel
theorem dX6_latestOf_38 : decode cX6_latestOf 38 = .ok (.aload 5, 2) := by decide +kernel
theorem dX6_latestOf_40 : decode cX6_latestOf 40 = .ok (.iload 6, 2) := by decide +kernel
theorem dX6_latestOf_42 : decode cX6_latestOf 42 = .ok (.invokevirtual 73, 3) := by decide +kernel
theorem dX6_latestOf_45 : decode cX6_latestOf 45 = .ok (.iload_n 1, 1) := by decide +kernel
theorem dX6_latestOf_46 : decode cX6_latestOf 46 = .ok (.if_icmp .ne 31, 3) := by decide +kernel
theorem dX6_latestOf_49 : decode cX6_latestOf 49 = .ok (.aload 5, 2) := by decide +kernel
theorem dX6_latestOf_51 : decode cX6_latestOf 51 = .ok (.iload 6, 2) := by decide +kernel
theorem dX6_latestOf_53 : decode cX6_latestOf 53 = .ok (.invokevirtual 76, 3) := by decide +kernel
theorem dX6_latestOf_56 : decode cX6_latestOf 56 = .ok (.iload_n 3, 1) := by decide +kernel
theorem dX6_latestOf_57 : decode cX6_latestOf 57 = .ok (.if_icmp .le 20, 3) := by decide +kernel
theorem dX6_latestOf_60 : decode cX6_latestOf 60 = .ok (.bipush 10, 2) := by decide +kernel
theorem dX6_latestOf_62 : decode cX6_latestOf 62 = .ok (.iload 4, 2) := by decide +kernel
theorem dX6_latestOf_64 : decode cX6_latestOf 64 = .ok (.imul, 1) := by decide +kernel
theorem dX6_latestOf_65 : decode cX6_latestOf 65 = .ok (.iload 6, 2) := by decide +kernel
theorem dX6_latestOf_67 : decode cX6_latestOf 67 = .ok (.iadd, 1) := by decide +kernel
theorem dX6_latestOf_68 : decode cX6_latestOf 68 = .ok (.istore_n 2, 1) := by decide +kernel
theorem dX6_latestOf_69 : decode cX6_latestOf 69 = .ok (.aload 5, 2) := by decide +kernel
theorem dX6_latestOf_71 : decode cX6_latestOf 71 = .ok (.iload 6, 2) := by decide +kernel
theorem dX6_latestOf_73 : decode cX6_latestOf 73 = .ok (.invokevirtual 76, 3) := by decide +kernel
theorem dX6_latestOf_76 : decode cX6_latestOf 76 = .ok (.istore_n 3, 1) := by decide +kernel
theorem dX6_latestOf_77 : decode cX6_latestOf 77 = .ok (.iinc 6 (-1), 3) := by decide +kernel
theorem dX6_latestOf_80 : decode cX6_latestOf 80 = .ok (.goto (-47), 3) := by decide +kernel
theorem dX6_latestOf_83 : decode cX6_latestOf 83 = .ok (.iinc 4 1, 3) := by decide +kernel
theorem dX6_latestOf_86 : decode cX6_latestOf 86 = .ok (.goto (-78), 3) := by decide +kernel
theorem dX6_latestOf_89 : decode cX6_latestOf 89 = .ok (.iload_n 2, 1) := by decide +kernel
theorem dX6_latestOf_90 : decode cX6_latestOf 90 = .ok (.ireturn, 1) := by decide +kernel
set_option maxRecDepth 20000 in
theorem ggX6_tellSeen_X2_oathsSeen : GoodIn wsX6_tellSeen wsX2_oathsSeen := goodIn_r _ [6, 7, 8, 9, 10, 11, 12, 13, 14, 5, 15, 16, 17, 18, 19, 20, 21, 22, 23, 24, 25, 26, 27, 28, 29, 30, 34, 35, 36, 37, 38, 39, 40] (by decide +kernel) (by decide +kernel)
set_option maxRecDepth 20000 in
theorem gX6_tellSeen_X2_oathsSeen : GoodIn wsX6_tellSeen (wsV RX6 79 RX2 yX2_oathsSeen wsX2_oathsSeen) := goodIn_app (goodIn_of _ (by decide +kernel)) ggX6_tellSeen_X2_oathsSeen
theorem dX6_tellSeen_0 : decode cX6_tellSeen 0 = .ok (.iconst 0, 1) := by decide +kernel
theorem dX6_tellSeen_1 : decode cX6_tellSeen 1 = .ok (.istore_n 3, 1) := by decide +kernel
theorem dX6_tellSeen_2 : decode cX6_tellSeen 2 = .ok (.iload_n 3, 1) := by decide +kernel
theorem dX6_tellSeen_3 : decode cX6_tellSeen 3 = .ok (.bipush 6, 2) := by decide +kernel
theorem dX6_tellSeen_5 : decode cX6_tellSeen 5 = .ok (.if_icmp .ge 28, 3) := by decide +kernel
theorem dX6_tellSeen_8 : decode cX6_tellSeen 8 = .ok (.iload_n 3, 1) := by decide +kernel
theorem dX6_tellSeen_9 : decode cX6_tellSeen 9 = .ok (.aload_n 2, 1) := by decide +kernel
theorem dX6_tellSeen_10 : decode cX6_tellSeen 10 = .ok (.arraylength, 1) := by decide +kernel
theorem dX6_tellSeen_11 : decode cX6_tellSeen 11 = .ok (.if_icmp .ge 22, 3) := by decide +kernel
theorem dX6_tellSeen_14 : decode cX6_tellSeen 14 = .ok (.aload_n 2, 1) := by decide +kernel
theorem dX6_tellSeen_15 : decode cX6_tellSeen 15 = .ok (.iload_n 3, 1) := by decide +kernel
theorem dX6_tellSeen_16 : decode cX6_tellSeen 16 = .ok (.aload_n 0, 1) := by decide +kernel
theorem dX6_tellSeen_17 : decode cX6_tellSeen 17 = .ok (.getfield 11, 3) := by decide +kernel
theorem dX6_tellSeen_20 : decode cX6_tellSeen 20 = .ok (.iload_n 3, 1) := by decide +kernel
theorem dX6_tellSeen_21 : decode cX6_tellSeen 21 = .ok (.aaload, 1) := by decide +kernel
theorem dX6_tellSeen_22 : decode cX6_tellSeen 22 = .ok (.iload_n 1, 1) := by decide +kernel
theorem dX6_tellSeen_23 : decode cX6_tellSeen 23 = .ok (.invokevirtual 79, 3) := by decide +kernel
theorem dX6_tellSeen_26 : decode cX6_tellSeen 26 = .ok (.iastore, 1) := by decide +kernel
theorem dX6_tellSeen_27 : decode cX6_tellSeen 27 = .ok (.iinc 3 1, 3) := by decide +kernel
theorem dX6_tellSeen_30 : decode cX6_tellSeen 30 = .ok (.goto (-28), 3) := by decide +kernel
theorem dX6_tellSeen_33 : decode cX6_tellSeen 33 = .ok (.return_, 1) := by decide +kernel
set_option maxRecDepth 20000 in
theorem ggX6_cellsWith_X2_keepsOath : GoodIn wsX6_cellsWith wsX2_keepsOath := goodIn_r _ [6, 7, 8, 9, 10, 5, 11, 12, 13, 14, 15, 16, 17, 18, 19, 20, 21, 22, 23, 24, 25, 26, 27, 28, 29, 30, 31, 32, 33, 34, 38, 39, 40, 41, 42, 43, 44] (by decide +kernel) (by decide +kernel)
set_option maxRecDepth 20000 in
theorem gX6_cellsWith_X2_keepsOath : GoodIn wsX6_cellsWith (wsV RX6 82 RX2 yX2_keepsOath wsX2_keepsOath) := goodIn_app (goodIn_of _ (by decide +kernel)) ggX6_cellsWith_X2_keepsOath
theorem dX6_cellsWith_0 : decode cX6_cellsWith 0 = .ok (.iconst 0, 1) := by decide +kernel
theorem dX6_cellsWith_1 : decode cX6_cellsWith 1 = .ok (.istore_n 3, 1) := by decide +kernel
theorem dX6_cellsWith_2 : decode cX6_cellsWith 2 = .ok (.iconst 0, 1) := by decide +kernel
theorem dX6_cellsWith_3 : decode cX6_cellsWith 3 = .ok (.istore 4, 2) := by decide +kernel
theorem dX6_cellsWith_5 : decode cX6_cellsWith 5 = .ok (.iload 4, 2) := by decide +kernel
theorem dX6_cellsWith_7 : decode cX6_cellsWith 7 = .ok (.bipush 6, 2) := by decide +kernel
theorem dX6_cellsWith_9 : decode cX6_cellsWith 9 = .ok (.if_icmp .ge 31, 3) := by decide +kernel
theorem dX6_cellsWith_12 : decode cX6_cellsWith 12 = .ok (.aload_n 0, 1) := by decide +kernel
theorem dX6_cellsWith_13 : decode cX6_cellsWith 13 = .ok (.getfield 11, 3) := by decide +kernel
theorem dX6_cellsWith_16 : decode cX6_cellsWith 16 = .ok (.iload 4, 2) := by decide +kernel
theorem dX6_cellsWith_18 : decode cX6_cellsWith 18 = .ok (.aaload, 1) := by decide +kernel
theorem dX6_cellsWith_19 : decode cX6_cellsWith 19 = .ok (.iload_n 1, 1) := by decide +kernel
theorem dX6_cellsWith_20 : decode cX6_cellsWith 20 = .ok (.iload_n 2, 1) := by decide +kernel
theorem dX6_cellsWith_21 : decode cX6_cellsWith 21 = .ok (.invokevirtual 82, 3) := by decide +kernel
theorem dX6_cellsWith_24 : decode cX6_cellsWith 24 = .ok (.ifCond .eq 10, 3) := by decide +kernel
theorem dX6_cellsWith_27 : decode cX6_cellsWith 27 = .ok (.iload_n 3, 1) := by decide +kernel
theorem dX6_cellsWith_28 : decode cX6_cellsWith 28 = .ok (.iconst 1, 1) := by decide +kernel
theorem dX6_cellsWith_29 : decode cX6_cellsWith 29 = .ok (.iload 4, 2) := by decide +kernel
theorem dX6_cellsWith_31 : decode cX6_cellsWith 31 = .ok (.ishl, 1) := by decide +kernel
theorem dX6_cellsWith_32 : decode cX6_cellsWith 32 = .ok (.ior, 1) := by decide +kernel
theorem dX6_cellsWith_33 : decode cX6_cellsWith 33 = .ok (.istore_n 3, 1) := by decide +kernel
theorem dX6_cellsWith_34 : decode cX6_cellsWith 34 = .ok (.iinc 4 1, 3) := by decide +kernel
theorem dX6_cellsWith_37 : decode cX6_cellsWith 37 = .ok (.goto (-32), 3) := by decide +kernel
theorem dX6_cellsWith_40 : decode cX6_cellsWith 40 = .ok (.iload_n 3, 1) := by decide +kernel
theorem dX6_cellsWith_41 : decode cX6_cellsWith 41 = .ok (.ireturn, 1) := by decide +kernel
set_option maxRecDepth 20000 in
theorem ggX6_isThin_X2_winterAt : GoodIn wsX6_isThin wsX2_winterAt := goodIn_r _ [6, 7, 8, 9, 10, 5, 11, 12, 27, 28, 29, 30, 31, 32, 33] (by decide +kernel) (by decide +kernel)
set_option maxRecDepth 20000 in
theorem gX6_isThin_X2_winterAt : GoodIn wsX6_isThin (wsV RX6 76 RX2 yX2_winterAt wsX2_winterAt) := goodIn_app (goodIn_of _ (by decide +kernel)) ggX6_isThin_X2_winterAt
set_option maxRecDepth 20000 in
theorem ggX6_isThin_X2_thickAt : GoodIn wsX6_isThin wsX2_thickAt := goodIn_r _ [16, 17, 8, 9, 10, 5, 11, 12, 27, 28, 29, 30, 31, 32, 33] (by decide +kernel) (by decide +kernel)
set_option maxRecDepth 20000 in
theorem gX6_isThin_X2_thickAt : GoodIn wsX6_isThin (wsV RX6 85 RX2 yX2_thickAt wsX2_thickAt) := goodIn_app (goodIn_of _ (by decide +kernel)) ggX6_isThin_X2_thickAt
set_option maxRecDepth 20000 in
theorem ggX6_isThin_X2_lowestThickOf : GoodIn wsX6_isThin wsX2_lowestThickOf := goodIn_r _ [21, 12, 22, 3, 4, 5, 6, 7, 8, 9, 10, 11, 23, 14, 15, 16, 17, 27, 28, 29, 30, 31, 32, 33] (by decide +kernel) (by decide +kernel)
set_option maxRecDepth 20000 in
theorem gX6_isThin_X2_lowestThickOf : GoodIn wsX6_isThin (wsV RX6 88 RX2 yX2_lowestThickOf wsX2_lowestThickOf) := goodIn_app (goodIn_of _ (by decide +kernel)) ggX6_isThin_X2_lowestThickOf
theorem dX6_isThin_0 : decode cX6_isThin 0 = .ok (.aload_n 0, 1) := by decide +kernel
theorem dX6_isThin_1 : decode cX6_isThin 1 = .ok (.getfield 11, 3) := by decide +kernel
theorem dX6_isThin_4 : decode cX6_isThin 4 = .ok (.iload_n 1, 1) := by decide +kernel
theorem dX6_isThin_5 : decode cX6_isThin 5 = .ok (.aaload, 1) := by decide +kernel
theorem dX6_isThin_6 : decode cX6_isThin 6 = .ok (.astore_n 3, 1) := by decide +kernel
theorem dX6_isThin_7 : decode cX6_isThin 7 = .ok (.aload_n 0, 1) := by decide +kernel
theorem dX6_isThin_8 : decode cX6_isThin 8 = .ok (.getfield 11, 3) := by decide +kernel
theorem dX6_isThin_11 : decode cX6_isThin 11 = .ok (.iload_n 1, 1) := by decide +kernel
theorem dX6_isThin_12 : decode cX6_isThin 12 = .ok (.bipush 6, 2) := by decide +kernel
theorem dX6_isThin_14 : decode cX6_isThin 14 = .ok (.iadd, 1) := by decide +kernel
theorem dX6_isThin_15 : decode cX6_isThin 15 = .ok (.iconst 1, 1) := by decide +kernel
theorem dX6_isThin_16 : decode cX6_isThin 16 = .ok (.isub, 1) := by decide +kernel
theorem dX6_isThin_17 : decode cX6_isThin 17 = .ok (.bipush 6, 2) := by decide +kernel
theorem dX6_isThin_19 : decode cX6_isThin 19 = .ok (.irem, 1) := by decide +kernel
theorem dX6_isThin_20 : decode cX6_isThin 20 = .ok (.aaload, 1) := by decide +kernel
theorem dX6_isThin_21 : decode cX6_isThin 21 = .ok (.astore 4, 2) := by decide +kernel
theorem dX6_isThin_23 : decode cX6_isThin 23 = .ok (.aload_n 0, 1) := by decide +kernel
theorem dX6_isThin_24 : decode cX6_isThin 24 = .ok (.getfield 11, 3) := by decide +kernel
theorem dX6_isThin_27 : decode cX6_isThin 27 = .ok (.iload_n 1, 1) := by decide +kernel
theorem dX6_isThin_28 : decode cX6_isThin 28 = .ok (.iconst 1, 1) := by decide +kernel
theorem dX6_isThin_29 : decode cX6_isThin 29 = .ok (.iadd, 1) := by decide +kernel
theorem dX6_isThin_30 : decode cX6_isThin 30 = .ok (.bipush 6, 2) := by decide +kernel
theorem dX6_isThin_32 : decode cX6_isThin 32 = .ok (.irem, 1) := by decide +kernel
theorem dX6_isThin_33 : decode cX6_isThin 33 = .ok (.aaload, 1) := by decide +kernel
theorem dX6_isThin_34 : decode cX6_isThin 34 = .ok (.astore 5, 2) := by decide +kernel
theorem dX6_isThin_36 : decode cX6_isThin 36 = .ok (.aload_n 3, 1) := by decide +kernel
theorem dX6_isThin_37 : decode cX6_isThin 37 = .ok (.iload_n 2, 1) := by decide +kernel
theorem dX6_isThin_38 : decode cX6_isThin 38 = .ok (.invokevirtual 76, 3) := by decide +kernel
theorem dX6_isThin_41 : decode cX6_isThin 41 = .ok (.istore 6, 2) := by decide +kernel
theorem dX6_isThin_43 : decode cX6_isThin 43 = .ok (.aload_n 3, 1) := by decide +kernel
theorem dX6_isThin_44 : decode cX6_isThin 44 = .ok (.iload_n 2, 1) := by decide +kernel
theorem dX6_isThin_45 : decode cX6_isThin 45 = .ok (.invokevirtual 85, 3) := by decide +kernel
theorem dX6_isThin_48 : decode cX6_isThin 48 = .ok (.iconst 2, 1) := by decide +kernel
theorem dX6_isThin_49 : decode cX6_isThin 49 = .ok (.iadd, 1) := by decide +kernel
theorem dX6_isThin_50 : decode cX6_isThin 50 = .ok (.istore 7, 2) := by decide +kernel
theorem dX6_isThin_52 : decode cX6_isThin 52 = .ok (.aload 4, 2) := by decide +kernel
theorem dX6_isThin_54 : decode cX6_isThin 54 = .ok (.iload 6, 2) := by decide +kernel
theorem dX6_isThin_56 : decode cX6_isThin 56 = .ok (.invokevirtual 88, 3) := by decide +kernel
theorem dX6_isThin_59 : decode cX6_isThin 59 = .ok (.iload 7, 2) := by decide +kernel
theorem dX6_isThin_61 : decode cX6_isThin 61 = .ok (.if_icmp .lt 19, 3) := by decide +kernel
theorem dX6_isThin_64 : decode cX6_isThin 64 = .ok (.aload 5, 2) := by decide +kernel
theorem dX6_isThin_66 : decode cX6_isThin 66 = .ok (.iload 6, 2) := by decide +kernel
theorem dX6_isThin_68 : decode cX6_isThin 68 = .ok (.invokevirtual 88, 3) := by decide +kernel
theorem dX6_isThin_71 : decode cX6_isThin 71 = .ok (.iload 7, 2) := by decide +kernel
theorem dX6_isThin_73 : decode cX6_isThin 73 = .ok (.if_icmp .lt 7, 3) := by decide +kernel
theorem dX6_isThin_76 : decode cX6_isThin 76 = .ok (.iconst 1, 1) := by decide +kernel
theorem dX6_isThin_77 : decode cX6_isThin 77 = .ok (.goto 4, 3) := by decide +kernel
theorem dX6_isThin_80 : decode cX6_isThin 80 = .ok (.iconst 0, 1) := by decide +kernel
theorem dX6_isThin_81 : decode cX6_isThin 81 = .ok (.ireturn, 1) := by decide +kernel
set_option maxRecDepth 20000 in
theorem ggX6_thinLayers_X6_isThin : GoodIn wsX6_thinLayers wsX6_isThin := goodIn_r _ [6, 1, 7, 8, 9, 10, 11, 12, 13, 14, 15, 16, 17, 18, 19, 20, 21, 22, 23, 24, 25, 26, 27, 28, 29, 30, 31, 32, 33, 34, 35, 36, 37, 38] (by decide +kernel) (by decide +kernel)
set_option maxRecDepth 20000 in
theorem gX6_thinLayers_X6_isThin : GoodIn wsX6_thinLayers (wsV RX6 91 RX6 yX6_isThin wsX6_isThin) := goodIn_app (goodIn_of _ (by decide +kernel)) ggX6_thinLayers_X6_isThin
theorem dX6_thinLayers_0 : decode cX6_thinLayers 0 = .ok (.iconst 0, 1) := by decide +kernel
theorem dX6_thinLayers_1 : decode cX6_thinLayers 1 = .ok (.istore_n 1, 1) := by decide +kernel
theorem dX6_thinLayers_2 : decode cX6_thinLayers 2 = .ok (.iconst 0, 1) := by decide +kernel
theorem dX6_thinLayers_3 : decode cX6_thinLayers 3 = .ok (.istore_n 2, 1) := by decide +kernel
theorem dX6_thinLayers_4 : decode cX6_thinLayers 4 = .ok (.iload_n 2, 1) := by decide +kernel
theorem dX6_thinLayers_5 : decode cX6_thinLayers 5 = .ok (.bipush 6, 2) := by decide +kernel
theorem dX6_thinLayers_7 : decode cX6_thinLayers 7 = .ok (.if_icmp .ge 42, 3) := by decide +kernel
theorem dX6_thinLayers_10 : decode cX6_thinLayers 10 = .ok (.iconst 0, 1) := by decide +kernel
theorem dX6_thinLayers_11 : decode cX6_thinLayers 11 = .ok (.istore_n 3, 1) := by decide +kernel
theorem dX6_thinLayers_12 : decode cX6_thinLayers 12 = .ok (.iload_n 3, 1) := by decide +kernel
theorem dX6_thinLayers_13 : decode cX6_thinLayers 13 = .ok (.aload_n 0, 1) := by decide +kernel
theorem dX6_thinLayers_14 : decode cX6_thinLayers 14 = .ok (.getfield 11, 3) := by decide +kernel
theorem dX6_thinLayers_17 : decode cX6_thinLayers 17 = .ok (.iload_n 2, 1) := by decide +kernel
theorem dX6_thinLayers_18 : decode cX6_thinLayers 18 = .ok (.aaload, 1) := by decide +kernel
theorem dX6_thinLayers_19 : decode cX6_thinLayers 19 = .ok (.getfield 50, 3) := by decide +kernel
theorem dX6_thinLayers_22 : decode cX6_thinLayers 22 = .ok (.if_icmp .ge 21, 3) := by decide +kernel
theorem dX6_thinLayers_25 : decode cX6_thinLayers 25 = .ok (.aload_n 0, 1) := by decide +kernel
theorem dX6_thinLayers_26 : decode cX6_thinLayers 26 = .ok (.iload_n 2, 1) := by decide +kernel
theorem dX6_thinLayers_27 : decode cX6_thinLayers 27 = .ok (.iload_n 3, 1) := by decide +kernel
theorem dX6_thinLayers_28 : decode cX6_thinLayers 28 = .ok (.invokevirtual 91, 3) := by decide +kernel
theorem dX6_thinLayers_31 : decode cX6_thinLayers 31 = .ok (.ifCond .eq 6, 3) := by decide +kernel
theorem dX6_thinLayers_34 : decode cX6_thinLayers 34 = .ok (.iinc 1 1, 3) := by decide +kernel
theorem dX6_thinLayers_37 : decode cX6_thinLayers 37 = .ok (.iinc 3 1, 3) := by decide +kernel
theorem dX6_thinLayers_40 : decode cX6_thinLayers 40 = .ok (.goto (-28), 3) := by decide +kernel
theorem dX6_thinLayers_43 : decode cX6_thinLayers 43 = .ok (.iinc 2 1, 3) := by decide +kernel
theorem dX6_thinLayers_46 : decode cX6_thinLayers 46 = .ok (.goto (-42), 3) := by decide +kernel
theorem dX6_thinLayers_49 : decode cX6_thinLayers 49 = .ok (.iload_n 1, 1) := by decide +kernel
theorem dX6_thinLayers_50 : decode cX6_thinLayers 50 = .ok (.ireturn, 1) := by decide +kernel
set_option maxRecDepth 20000 in
theorem ggX6_firstThin_X6_isThin : GoodIn wsX6_firstThin wsX6_isThin := goodIn_r _ [6, 1, 7, 8, 9, 10, 11, 12, 13, 14, 15, 16, 17, 18, 19, 20, 21, 22, 23, 24, 25, 26, 27, 28, 29, 30, 31, 32, 33, 34, 35, 36, 37, 38] (by decide +kernel) (by decide +kernel)
set_option maxRecDepth 20000 in
theorem gX6_firstThin_X6_isThin : GoodIn wsX6_firstThin (wsV RX6 91 RX6 yX6_isThin wsX6_isThin) := goodIn_app (goodIn_of _ (by decide +kernel)) ggX6_firstThin_X6_isThin
theorem dX6_firstThin_0 : decode cX6_firstThin 0 = .ok (.iconst 0, 1) := by decide +kernel
theorem dX6_firstThin_1 : decode cX6_firstThin 1 = .ok (.istore_n 1, 1) := by decide +kernel
theorem dX6_firstThin_2 : decode cX6_firstThin 2 = .ok (.iload_n 1, 1) := by decide +kernel
theorem dX6_firstThin_3 : decode cX6_firstThin 3 = .ok (.bipush 6, 2) := by decide +kernel
theorem dX6_firstThin_5 : decode cX6_firstThin 5 = .ok (.if_icmp .ge 46, 3) := by decide +kernel
theorem dX6_firstThin_8 : decode cX6_firstThin 8 = .ok (.iconst 0, 1) := by decide +kernel
theorem dX6_firstThin_9 : decode cX6_firstThin 9 = .ok (.istore_n 2, 1) := by decide +kernel
theorem dX6_firstThin_10 : decode cX6_firstThin 10 = .ok (.iload_n 2, 1) := by decide +kernel
theorem dX6_firstThin_11 : decode cX6_firstThin 11 = .ok (.aload_n 0, 1) := by decide +kernel
theorem dX6_firstThin_12 : decode cX6_firstThin 12 = .ok (.getfield 11, 3) := by decide +kernel
theorem dX6_firstThin_15 : decode cX6_firstThin 15 = .ok (.iload_n 1, 1) := by decide +kernel
theorem dX6_firstThin_16 : decode cX6_firstThin 16 = .ok (.aaload, 1) := by decide +kernel
theorem dX6_firstThin_17 : decode cX6_firstThin 17 = .ok (.getfield 50, 3) := by decide +kernel
theorem dX6_firstThin_20 : decode cX6_firstThin 20 = .ok (.if_icmp .ge 25, 3) := by decide +kernel
theorem dX6_firstThin_23 : decode cX6_firstThin 23 = .ok (.aload_n 0, 1) := by decide +kernel
theorem dX6_firstThin_24 : decode cX6_firstThin 24 = .ok (.iload_n 1, 1) := by decide +kernel
theorem dX6_firstThin_25 : decode cX6_firstThin 25 = .ok (.iload_n 2, 1) := by decide +kernel
theorem dX6_firstThin_26 : decode cX6_firstThin 26 = .ok (.invokevirtual 91, 3) := by decide +kernel
theorem dX6_firstThin_29 : decode cX6_firstThin 29 = .ok (.ifCond .eq 10, 3) := by decide +kernel
theorem dX6_firstThin_32 : decode cX6_firstThin 32 = .ok (.bipush 10, 2) := by decide +kernel
theorem dX6_firstThin_34 : decode cX6_firstThin 34 = .ok (.iload_n 1, 1) := by decide +kernel
theorem dX6_firstThin_35 : decode cX6_firstThin 35 = .ok (.imul, 1) := by decide +kernel
theorem dX6_firstThin_36 : decode cX6_firstThin 36 = .ok (.iload_n 2, 1) := by decide +kernel
theorem dX6_firstThin_37 : decode cX6_firstThin 37 = .ok (.iadd, 1) := by decide +kernel
theorem dX6_firstThin_38 : decode cX6_firstThin 38 = .ok (.ireturn, 1) := by decide +kernel
theorem dX6_firstThin_39 : decode cX6_firstThin 39 = .ok (.iinc 2 1, 3) := by decide +kernel
theorem dX6_firstThin_42 : decode cX6_firstThin 42 = .ok (.goto (-32), 3) := by decide +kernel
theorem dX6_firstThin_45 : decode cX6_firstThin 45 = .ok (.iinc 1 1, 3) := by decide +kernel
theorem dX6_firstThin_48 : decode cX6_firstThin 48 = .ok (.goto (-46), 3) := by decide +kernel
theorem dX6_firstThin_51 : decode cX6_firstThin 51 = .ok (.bipush (-4), 2) := by decide +kernel
theorem dX6_firstThin_53 : decode cX6_firstThin 53 = .ok (.ireturn, 1) := by decide +kernel
set_option maxRecDepth 20000 in
theorem ggX6_tellAllAhead_J7_fill_53178 : GoodIn wsX6_tellAllAhead wsJ7_fill_53178 := goodIn_r _ [5] (by decide +kernel) (by decide +kernel)
set_option maxRecDepth 20000 in
theorem gX6_tellAllAhead_J7_fill_53178 : GoodIn wsX6_tellAllAhead (va_wsS RX6 94 yJ7_fill_53178 wsJ7_fill_53178) := goodIn_app (goodIn_of _ (by decide +kernel)) ggX6_tellAllAhead_J7_fill_53178
set_option maxRecDepth 20000 in
theorem ggX6_tellAllAhead_X2_tellAhead : GoodIn wsX6_tellAllAhead wsX2_tellAhead := goodIn_r _ [10, 11, 12, 13, 14, 9, 15, 16, 17, 18, 19, 20, 21, 22, 23, 27, 28, 29, 30, 31, 32, 33] (by decide +kernel) (by decide +kernel)
set_option maxRecDepth 20000 in
theorem gX6_tellAllAhead_X2_tellAhead : GoodIn wsX6_tellAllAhead (wsV RX6 100 RX2 yX2_tellAhead wsX2_tellAhead) := goodIn_app (goodIn_of _ (by decide +kernel)) ggX6_tellAllAhead_X2_tellAhead
theorem dX6_tellAllAhead_0 : decode cX6_tellAllAhead 0 = .ok (.aload_n 1, 1) := by decide +kernel
theorem dX6_tellAllAhead_1 : decode cX6_tellAllAhead 1 = .ok (.iconst 0, 1) := by decide +kernel
theorem dX6_tellAllAhead_2 : decode cX6_tellAllAhead 2 = .ok (.invokestatic 94, 3) := by decide +kernel
theorem dX6_tellAllAhead_5 : decode cX6_tellAllAhead 5 = .ok (.aload_n 0, 1) := by decide +kernel
theorem dX6_tellAllAhead_6 : decode cX6_tellAllAhead 6 = .ok (.getfield 11, 3) := by decide +kernel
theorem dX6_tellAllAhead_9 : decode cX6_tellAllAhead 9 = .ok (.astore_n 2, 1) := by decide +kernel
theorem dX6_tellAllAhead_10 : decode cX6_tellAllAhead 10 = .ok (.aload_n 2, 1) := by decide +kernel
theorem dX6_tellAllAhead_11 : decode cX6_tellAllAhead 11 = .ok (.arraylength, 1) := by decide +kernel
theorem dX6_tellAllAhead_12 : decode cX6_tellAllAhead 12 = .ok (.istore_n 3, 1) := by decide +kernel
theorem dX6_tellAllAhead_13 : decode cX6_tellAllAhead 13 = .ok (.iconst 0, 1) := by decide +kernel
theorem dX6_tellAllAhead_14 : decode cX6_tellAllAhead 14 = .ok (.istore 4, 2) := by decide +kernel
theorem dX6_tellAllAhead_16 : decode cX6_tellAllAhead 16 = .ok (.iload 4, 2) := by decide +kernel
theorem dX6_tellAllAhead_18 : decode cX6_tellAllAhead 18 = .ok (.iload_n 3, 1) := by decide +kernel
theorem dX6_tellAllAhead_19 : decode cX6_tellAllAhead 19 = .ok (.if_icmp .ge 21, 3) := by decide +kernel
theorem dX6_tellAllAhead_22 : decode cX6_tellAllAhead 22 = .ok (.aload_n 2, 1) := by decide +kernel
theorem dX6_tellAllAhead_23 : decode cX6_tellAllAhead 23 = .ok (.iload 4, 2) := by decide +kernel
theorem dX6_tellAllAhead_25 : decode cX6_tellAllAhead 25 = .ok (.aaload, 1) := by decide +kernel
theorem dX6_tellAllAhead_26 : decode cX6_tellAllAhead 26 = .ok (.astore 5, 2) := by decide +kernel
theorem dX6_tellAllAhead_28 : decode cX6_tellAllAhead 28 = .ok (.aload 5, 2) := by decide +kernel
theorem dX6_tellAllAhead_30 : decode cX6_tellAllAhead 30 = .ok (.aload_n 1, 1) := by decide +kernel
theorem dX6_tellAllAhead_31 : decode cX6_tellAllAhead 31 = .ok (.invokevirtual 100, 3) := by decide +kernel
theorem dX6_tellAllAhead_34 : decode cX6_tellAllAhead 34 = .ok (.iinc 4 1, 3) := by decide +kernel
theorem dX6_tellAllAhead_37 : decode cX6_tellAllAhead 37 = .ok (.goto (-21), 3) := by decide +kernel
theorem dX6_tellAllAhead_40 : decode cX6_tellAllAhead 40 = .ok (.return_, 1) := by decide +kernel
theorem dX7_init_0 : decode cX7_init 0 = .ok (.aload_n 0, 1) := by decide +kernel
theorem dX7_init_1 : decode cX7_init 1 = .ok (.invokespecial 1, 3) := by decide +kernel
theorem dX7_init_4 : decode cX7_init 4 = .ok (.return_, 1) := by decide +kernel
theorem dX7_fingersIn_0 : decode cX7_fingersIn 0 = .ok (.iload_n 1, 1) := by decide +kernel
theorem dX7_fingersIn_1 : decode cX7_fingersIn 1 = .ok (.ireturn, 1) := by decide +kernel
theorem dX7_melts_0 : decode cX7_melts 0 = .ok (.iconst 2, 1) := by decide +kernel
theorem dX7_melts_1 : decode cX7_melts 1 = .ok (.ireturn, 1) := by decide +kernel
theorem dX7_light_0 : decode cX7_light 0 = .ok (.bipush 9, 2) := by decide +kernel
theorem dX7_light_2 : decode cX7_light 2 = .ok (.ireturn, 1) := by decide +kernel
theorem dX7_tollWith_0 : decode cX7_tollWith 0 = .ok (.iconst 3, 1) := by decide +kernel
theorem dX7_tollWith_1 : decode cX7_tollWith 1 = .ok (.ireturn, 1) := by decide +kernel
theorem dX7_fail_0 : decode cX7_fail 0 = .ok (.new 7, 3) := by decide +kernel
theorem dX7_fail_3 : decode cX7_fail 3 = .ok (.dup, 1) := by decide +kernel
theorem dX7_fail_4 : decode cX7_fail 4 = .ok (.ldc 9, 2) := by decide +kernel
theorem dX7_fail_6 : decode cX7_fail 6 = .ok (.invokespecial 11, 3) := by decide +kernel
theorem dX7_fail_9 : decode cX7_fail 9 = .ok (.athrow, 1) := by decide +kernel
set_option maxRecDepth 20000 in
theorem ggX8_init_X10_init : GoodIn wsX8_init wsX10_init := goodIn_r _ [3, 4, 5, 6, 7, 8, 9] (by decide +kernel) (by decide +kernel)
set_option maxRecDepth 20000 in
theorem gX8_init_X10_init_n1 : GoodIn wsX8_init (wsX10_init) := ggX8_init_X10_init
theorem dX8_init_0 : decode cX8_init 0 = .ok (.aload_n 0, 1) := by decide +kernel
theorem dX8_init_1 : decode cX8_init 1 = .ok (.invokespecial 1, 3) := by decide +kernel
theorem dX8_init_4 : decode cX8_init 4 = .ok (.return_, 1) := by decide +kernel
set_option maxRecDepth 20000 in
theorem ggX8_fingersIn_X10_fingersIn : GoodIn wsX8_fingersIn wsX10_fingersIn := goodIn_r _ [6, 7, 8, 9, 10, 11, 12] (by decide +kernel) (by decide +kernel)
set_option maxRecDepth 20000 in
theorem gX8_fingersIn_X10_fingersIn_s7 : GoodIn wsX8_fingersIn (va_wsSU RX8 7 yX10_fingersIn wsX10_fingersIn) := goodIn_app (goodIn_of _ (by decide +kernel)) ggX8_fingersIn_X10_fingersIn
theorem dX8_fingersIn_0 : decode cX8_fingersIn 0 = .ok (.aload_n 0, 1) := by decide +kernel
theorem dX8_fingersIn_1 : decode cX8_fingersIn 1 = .ok (.iload_n 1, 1) := by decide +kernel
theorem dX8_fingersIn_2 : decode cX8_fingersIn 2 = .ok (.iload_n 2, 1) := by decide +kernel
theorem dX8_fingersIn_3 : decode cX8_fingersIn 3 = .ok (.invokespecial 7, 3) := by decide +kernel
theorem dX8_fingersIn_6 : decode cX8_fingersIn 6 = .ok (.iconst 1, 1) := by decide +kernel
theorem dX8_fingersIn_7 : decode cX8_fingersIn 7 = .ok (.isub, 1) := by decide +kernel
theorem dX8_fingersIn_8 : decode cX8_fingersIn 8 = .ok (.ireturn, 1) := by decide +kernel
set_option maxRecDepth 20000 in
theorem ggX8_melts_X10_melts : GoodIn wsX8_melts wsX10_melts := goodIn_r _ [6, 7, 8, 9, 10, 11, 12] (by decide +kernel) (by decide +kernel)
set_option maxRecDepth 20000 in
theorem gX8_melts_X10_melts_s11 : GoodIn wsX8_melts (va_wsSU RX8 11 yX10_melts wsX10_melts) := goodIn_app (goodIn_of _ (by decide +kernel)) ggX8_melts_X10_melts
theorem dX8_melts_0 : decode cX8_melts 0 = .ok (.iconst 2, 1) := by decide +kernel
theorem dX8_melts_1 : decode cX8_melts 1 = .ok (.aload_n 0, 1) := by decide +kernel
theorem dX8_melts_2 : decode cX8_melts 2 = .ok (.iload_n 1, 1) := by decide +kernel
theorem dX8_melts_3 : decode cX8_melts 3 = .ok (.invokespecial 11, 3) := by decide +kernel
theorem dX8_melts_6 : decode cX8_melts 6 = .ok (.imul, 1) := by decide +kernel
theorem dX8_melts_7 : decode cX8_melts 7 = .ok (.ireturn, 1) := by decide +kernel
set_option maxRecDepth 20000 in
theorem ggX8_tollWith_X10_tollWith : GoodIn wsX8_tollWith wsX10_tollWith := goodIn_r _ [6, 7, 8, 9, 10, 11, 12] (by decide +kernel) (by decide +kernel)
set_option maxRecDepth 20000 in
theorem gX8_tollWith_X10_tollWith_s15 : GoodIn wsX8_tollWith (va_wsSU RX8 15 yX10_tollWith wsX10_tollWith) := goodIn_app (goodIn_of _ (by decide +kernel)) ggX8_tollWith_X10_tollWith
theorem dX8_tollWith_0 : decode cX8_tollWith 0 = .ok (.aload_n 0, 1) := by decide +kernel
theorem dX8_tollWith_1 : decode cX8_tollWith 1 = .ok (.iload_n 1, 1) := by decide +kernel
theorem dX8_tollWith_2 : decode cX8_tollWith 2 = .ok (.invokespecial 15, 3) := by decide +kernel
theorem dX8_tollWith_5 : decode cX8_tollWith 5 = .ok (.iconst 4, 1) := by decide +kernel
theorem dX8_tollWith_6 : decode cX8_tollWith 6 = .ok (.iadd, 1) := by decide +kernel
theorem dX8_tollWith_7 : decode cX8_tollWith 7 = .ok (.ireturn, 1) := by decide +kernel
theorem dX8_fail_0 : decode cX8_fail 0 = .ok (.new 18, 3) := by decide +kernel
theorem dX8_fail_3 : decode cX8_fail 3 = .ok (.dup, 1) := by decide +kernel
theorem dX8_fail_4 : decode cX8_fail 4 = .ok (.ldc 20, 2) := by decide +kernel
theorem dX8_fail_6 : decode cX8_fail 6 = .ok (.invokespecial 22, 3) := by decide +kernel
theorem dX8_fail_9 : decode cX8_fail 9 = .ok (.athrow, 1) := by decide +kernel
theorem dX9_init_0 : decode cX9_init 0 = .ok (.aload_n 0, 1) := by decide +kernel
theorem dX9_init_1 : decode cX9_init 1 = .ok (.invokespecial 3, 3) := by decide +kernel
theorem dX9_init_4 : decode cX9_init 4 = .ok (.aload_n 0, 1) := by decide +kernel
theorem dX9_init_5 : decode cX9_init 5 = .ok (.bipush 100, 2) := by decide +kernel
theorem dX9_init_7 : decode cX9_init 7 = .ok (.newarray .int, 2) := by decide +kernel
theorem dX9_init_9 : decode cX9_init 9 = .ok (.putfield 9, 3) := by decide +kernel
theorem dX9_init_12 : decode cX9_init 12 = .ok (.return_, 1) := by decide +kernel
theorem dX9_takeLayer_0 : decode cX9_takeLayer 0 = .ok (.aload_n 0, 1) := by decide +kernel
theorem dX9_takeLayer_1 : decode cX9_takeLayer 1 = .ok (.iconst 1, 1) := by decide +kernel
theorem dX9_takeLayer_2 : decode cX9_takeLayer 2 = .ok (.putfield 15, 3) := by decide +kernel
theorem dX9_takeLayer_5 : decode cX9_takeLayer 5 = .ok (.aload_n 0, 1) := by decide +kernel
theorem dX9_takeLayer_6 : decode cX9_takeLayer 6 = .ok (.iload_n 1, 1) := by decide +kernel
theorem dX9_takeLayer_7 : decode cX9_takeLayer 7 = .ok (.putfield 19, 3) := by decide +kernel
theorem dX9_takeLayer_10 : decode cX9_takeLayer 10 = .ok (.aload_n 0, 1) := by decide +kernel
theorem dX9_takeLayer_11 : decode cX9_takeLayer 11 = .ok (.iload_n 2, 1) := by decide +kernel
theorem dX9_takeLayer_12 : decode cX9_takeLayer 12 = .ok (.putfield 22, 3) := by decide +kernel
theorem dX9_takeLayer_15 : decode cX9_takeLayer 15 = .ok (.return_, 1) := by decide +kernel
set_option maxRecDepth 20000 in
theorem ggX9_takeRow_J7_fill_53178 : GoodIn wsX9_takeRow wsJ7_fill_53178 := goodIn_r _ [8] (by decide +kernel) (by decide +kernel)
set_option maxRecDepth 20000 in
theorem gX9_takeRow_J7_fill_53178 : GoodIn wsX9_takeRow (va_wsS RX9 31 yJ7_fill_53178 wsJ7_fill_53178) := goodIn_app (goodIn_of _ (by decide +kernel)) ggX9_takeRow_J7_fill_53178
theorem dX9_takeRow_0 : decode cX9_takeRow 0 = .ok (.aload_n 0, 1) := by decide +kernel
theorem dX9_takeRow_1 : decode cX9_takeRow 1 = .ok (.iconst 2, 1) := by decide +kernel
theorem dX9_takeRow_2 : decode cX9_takeRow 2 = .ok (.putfield 15, 3) := by decide +kernel
theorem dX9_takeRow_5 : decode cX9_takeRow 5 = .ok (.aload_n 0, 1) := by decide +kernel
theorem dX9_takeRow_6 : decode cX9_takeRow 6 = .ok (.iload_n 1, 1) := by decide +kernel
theorem dX9_takeRow_7 : decode cX9_takeRow 7 = .ok (.putfield 25, 3) := by decide +kernel
theorem dX9_takeRow_10 : decode cX9_takeRow 10 = .ok (.aload_n 0, 1) := by decide +kernel
theorem dX9_takeRow_11 : decode cX9_takeRow 11 = .ok (.iload_n 2, 1) := by decide +kernel
theorem dX9_takeRow_12 : decode cX9_takeRow 12 = .ok (.putfield 28, 3) := by decide +kernel
theorem dX9_takeRow_15 : decode cX9_takeRow 15 = .ok (.aload_n 0, 1) := by decide +kernel
theorem dX9_takeRow_16 : decode cX9_takeRow 16 = .ok (.getfield 9, 3) := by decide +kernel
theorem dX9_takeRow_19 : decode cX9_takeRow 19 = .ok (.iconst 0, 1) := by decide +kernel
theorem dX9_takeRow_20 : decode cX9_takeRow 20 = .ok (.invokestatic 31, 3) := by decide +kernel
theorem dX9_takeRow_23 : decode cX9_takeRow 23 = .ok (.return_, 1) := by decide +kernel
theorem dX9_lacks_0 : decode cX9_lacks 0 = .ok (.aload_n 0, 1) := by decide +kernel
theorem dX9_lacks_1 : decode cX9_lacks 1 = .ok (.getfield 15, 3) := by decide +kernel
theorem dX9_lacks_4 : decode cX9_lacks 4 = .ok (.ifCond .ne 6, 3) := by decide +kernel
theorem dX9_lacks_7 : decode cX9_lacks 7 = .ok (.bipush (-11), 2) := by decide +kernel
theorem dX9_lacks_9 : decode cX9_lacks 9 = .ok (.ireturn, 1) := by decide +kernel
theorem dX9_lacks_10 : decode cX9_lacks 10 = .ok (.aload_n 0, 1) := by decide +kernel
theorem dX9_lacks_11 : decode cX9_lacks 11 = .ok (.getfield 15, 3) := by decide +kernel
theorem dX9_lacks_14 : decode cX9_lacks 14 = .ok (.iload_n 1, 1) := by decide +kernel
theorem dX9_lacks_15 : decode cX9_lacks 15 = .ok (.if_icmp .ne 7, 3) := by decide +kernel
theorem dX9_lacks_18 : decode cX9_lacks 18 = .ok (.iconst 0, 1) := by decide +kernel
theorem dX9_lacks_19 : decode cX9_lacks 19 = .ok (.goto 5, 3) := by decide +kernel
theorem dX9_lacks_22 : decode cX9_lacks 22 = .ok (.bipush (-12), 2) := by decide +kernel
theorem dX9_lacks_24 : decode cX9_lacks 24 = .ok (.ireturn, 1) := by decide +kernel
theorem dX9_hasPlace_0 : decode cX9_hasPlace 0 = .ok (.iload_n 1, 1) := by decide +kernel
theorem dX9_hasPlace_1 : decode cX9_hasPlace 1 = .ok (.ifCond .lt 24, 3) := by decide +kernel
theorem dX9_hasPlace_4 : decode cX9_hasPlace 4 = .ok (.iload_n 1, 1) := by decide +kernel
theorem dX9_hasPlace_5 : decode cX9_hasPlace 5 = .ok (.aload_n 0, 1) := by decide +kernel
theorem dX9_hasPlace_6 : decode cX9_hasPlace 6 = .ok (.getfield 28, 3) := by decide +kernel
theorem dX9_hasPlace_9 : decode cX9_hasPlace 9 = .ok (.if_icmp .ge 16, 3) := by decide +kernel
theorem dX9_hasPlace_12 : decode cX9_hasPlace 12 = .ok (.iload_n 1, 1) := by decide +kernel
theorem dX9_hasPlace_13 : decode cX9_hasPlace 13 = .ok (.aload_n 0, 1) := by decide +kernel
theorem dX9_hasPlace_14 : decode cX9_hasPlace 14 = .ok (.getfield 9, 3) := by decide +kernel
theorem dX9_hasPlace_17 : decode cX9_hasPlace 17 = .ok (.arraylength, 1) := by decide +kernel
theorem dX9_hasPlace_18 : decode cX9_hasPlace 18 = .ok (.if_icmp .ge 7, 3) := by decide +kernel
theorem dX9_hasPlace_21 : decode cX9_hasPlace 21 = .ok (.iconst 1, 1) := by decide +kernel
theorem dX9_hasPlace_22 : decode cX9_hasPlace 22 = .ok (.goto 4, 3) := by decide +kernel
theorem dX9_hasPlace_25 : decode cX9_hasPlace 25 = .ok (.iconst 0, 1) := by decide +kernel
theorem dX9_hasPlace_26 : decode cX9_hasPlace 26 = .ok (.ireturn, 1) := by decide +kernel
theorem dX9_hasStretch_0 : decode cX9_hasStretch 0 = .ok (.iload_n 1, 1) := by decide +kernel
theorem dX9_hasStretch_1 : decode cX9_hasStretch 1 = .ok (.ifCond .lt 29, 3) := by decide +kernel
theorem dX9_hasStretch_4 : decode cX9_hasStretch 4 = .ok (.iload_n 1, 1) := by decide +kernel
theorem dX9_hasStretch_5 : decode cX9_hasStretch 5 = .ok (.aload_n 0, 1) := by decide +kernel
theorem dX9_hasStretch_6 : decode cX9_hasStretch 6 = .ok (.getfield 28, 3) := by decide +kernel
theorem dX9_hasStretch_9 : decode cX9_hasStretch 9 = .ok (.if_icmp .gt 21, 3) := by decide +kernel
theorem dX9_hasStretch_12 : decode cX9_hasStretch 12 = .ok (.iload_n 2, 1) := by decide +kernel
theorem dX9_hasStretch_13 : decode cX9_hasStretch 13 = .ok (.ifCond .lt 17, 3) := by decide +kernel
theorem dX9_hasStretch_16 : decode cX9_hasStretch 16 = .ok (.iload_n 2, 1) := by decide +kernel
theorem dX9_hasStretch_17 : decode cX9_hasStretch 17 = .ok (.aload_n 0, 1) := by decide +kernel
theorem dX9_hasStretch_18 : decode cX9_hasStretch 18 = .ok (.getfield 28, 3) := by decide +kernel
theorem dX9_hasStretch_21 : decode cX9_hasStretch 21 = .ok (.iload_n 1, 1) := by decide +kernel
theorem dX9_hasStretch_22 : decode cX9_hasStretch 22 = .ok (.isub, 1) := by decide +kernel
theorem dX9_hasStretch_23 : decode cX9_hasStretch 23 = .ok (.if_icmp .gt 7, 3) := by decide +kernel
theorem dX9_hasStretch_26 : decode cX9_hasStretch 26 = .ok (.iconst 1, 1) := by decide +kernel
theorem dX9_hasStretch_27 : decode cX9_hasStretch 27 = .ok (.goto 4, 3) := by decide +kernel
theorem dX9_hasStretch_30 : decode cX9_hasStretch 30 = .ok (.iconst 0, 1) := by decide +kernel
theorem dX9_hasStretch_31 : decode cX9_hasStretch 31 = .ok (.ireturn, 1) := by decide +kernel
set_option maxRecDepth 20000 in
theorem ggX9_valueAt_X9_hasPlace : GoodIn wsX9_valueAt wsX9_hasPlace := goodIn_r _ [6, 7, 1, 8, 9, 10, 11, 12, 13] (by decide +kernel) (by decide +kernel)
set_option maxRecDepth 20000 in
theorem gX9_valueAt_X9_hasPlace : GoodIn wsX9_valueAt (wsV RX9 37 RX9 yX9_hasPlace wsX9_hasPlace) := goodIn_app (goodIn_of _ (by decide +kernel)) ggX9_valueAt_X9_hasPlace
theorem dX9_valueAt_0 : decode cX9_valueAt 0 = .ok (.aload_n 0, 1) := by decide +kernel
theorem dX9_valueAt_1 : decode cX9_valueAt 1 = .ok (.iload_n 1, 1) := by decide +kernel
theorem dX9_valueAt_2 : decode cX9_valueAt 2 = .ok (.invokevirtual 37, 3) := by decide +kernel
theorem dX9_valueAt_5 : decode cX9_valueAt 5 = .ok (.ifCond .eq 12, 3) := by decide +kernel
theorem dX9_valueAt_8 : decode cX9_valueAt 8 = .ok (.aload_n 0, 1) := by decide +kernel
theorem dX9_valueAt_9 : decode cX9_valueAt 9 = .ok (.getfield 9, 3) := by decide +kernel
theorem dX9_valueAt_12 : decode cX9_valueAt 12 = .ok (.iload_n 1, 1) := by decide +kernel
theorem dX9_valueAt_13 : decode cX9_valueAt 13 = .ok (.iaload, 1) := by decide +kernel
theorem dX9_valueAt_14 : decode cX9_valueAt 14 = .ok (.goto 4, 3) := by decide +kernel
theorem dX9_valueAt_17 : decode cX9_valueAt 17 = .ok (.iconst 0, 1) := by decide +kernel
theorem dX9_valueAt_18 : decode cX9_valueAt 18 = .ok (.ireturn, 1) := by decide +kernel
set_option maxRecDepth 20000 in
theorem ggX9_digitAt_X9_valueAt : GoodIn wsX9_digitAt wsX9_valueAt := goodIn_r _ [5, 6, 7, 8, 9, 4, 10, 11, 15, 16, 17, 18, 19, 20] (by decide +kernel) (by decide +kernel)
set_option maxRecDepth 20000 in
theorem gX9_digitAt_X9_valueAt : GoodIn wsX9_digitAt (wsV RX9 41 RX9 yX9_valueAt wsX9_valueAt) := goodIn_app (goodIn_of _ (by decide +kernel)) ggX9_digitAt_X9_valueAt
set_option maxRecDepth 20000 in
theorem ggX9_digitAt_X11_within : GoodIn wsX9_digitAt wsX11_within := goodIn_r _ [14] (by decide +kernel) (by decide +kernel)
set_option maxRecDepth 20000 in
theorem gX9_digitAt_X11_within_n45 : GoodIn wsX9_digitAt (wsX11_within) := ggX9_digitAt_X11_within
theorem dX9_digitAt_0 : decode cX9_digitAt 0 = .ok (.aload_n 0, 1) := by decide +kernel
theorem dX9_digitAt_1 : decode cX9_digitAt 1 = .ok (.iload_n 1, 1) := by decide +kernel
theorem dX9_digitAt_2 : decode cX9_digitAt 2 = .ok (.invokevirtual 41, 3) := by decide +kernel
theorem dX9_digitAt_5 : decode cX9_digitAt 5 = .ok (.istore_n 2, 1) := by decide +kernel
theorem dX9_digitAt_6 : decode cX9_digitAt 6 = .ok (.iload_n 2, 1) := by decide +kernel
theorem dX9_digitAt_7 : decode cX9_digitAt 7 = .ok (.bipush 48, 2) := by decide +kernel
theorem dX9_digitAt_9 : decode cX9_digitAt 9 = .ok (.bipush 57, 2) := by decide +kernel
theorem dX9_digitAt_11 : decode cX9_digitAt 11 = .ok (.invokestatic 45, 3) := by decide +kernel
theorem dX9_digitAt_14 : decode cX9_digitAt 14 = .ok (.ifCond .eq 10, 3) := by decide +kernel
theorem dX9_digitAt_17 : decode cX9_digitAt 17 = .ok (.iload_n 2, 1) := by decide +kernel
theorem dX9_digitAt_18 : decode cX9_digitAt 18 = .ok (.bipush 48, 2) := by decide +kernel
theorem dX9_digitAt_20 : decode cX9_digitAt 20 = .ok (.isub, 1) := by decide +kernel
theorem dX9_digitAt_21 : decode cX9_digitAt 21 = .ok (.goto 4, 3) := by decide +kernel
theorem dX9_digitAt_24 : decode cX9_digitAt 24 = .ok (.iconst (-1), 1) := by decide +kernel
theorem dX9_digitAt_25 : decode cX9_digitAt 25 = .ok (.ireturn, 1) := by decide +kernel
theorem dX9_lowestBits_0 : decode cX9_lowestBits 0 = .ok (.aload_n 0, 1) := by decide +kernel
theorem dX9_lowestBits_1 : decode cX9_lowestBits 1 = .ok (.getfield 25, 3) := by decide +kernel
theorem dX9_lowestBits_4 : decode cX9_lowestBits 4 = .ok (.lookupswitch 34 #[(0, 28), (1, 31)], 28) := by decide +kernel
theorem dX9_lowestBits_32 : decode cX9_lowestBits 32 = .ok (.iload_n 1, 1) := by decide +kernel
theorem dX9_lowestBits_33 : decode cX9_lowestBits 33 = .ok (.i2b, 1) := by decide +kernel
theorem dX9_lowestBits_34 : decode cX9_lowestBits 34 = .ok (.ireturn, 1) := by decide +kernel
theorem dX9_lowestBits_35 : decode cX9_lowestBits 35 = .ok (.iload_n 1, 1) := by decide +kernel
theorem dX9_lowestBits_36 : decode cX9_lowestBits 36 = .ok (.i2s, 1) := by decide +kernel
theorem dX9_lowestBits_37 : decode cX9_lowestBits 37 = .ok (.ireturn, 1) := by decide +kernel
theorem dX9_lowestBits_38 : decode cX9_lowestBits 38 = .ok (.iload_n 1, 1) := by decide +kernel
theorem dX9_lowestBits_39 : decode cX9_lowestBits 39 = .ok (.ireturn, 1) := by decide +kernel
theorem dX9_leastNumber_0 : decode cX9_leastNumber 0 = .ok (.aload_n 0, 1) := by decide +kernel
theorem dX9_leastNumber_1 : decode cX9_leastNumber 1 = .ok (.getfield 25, 3) := by decide +kernel
theorem dX9_leastNumber_4 : decode cX9_leastNumber 4 = .ok (.lookupswitch 35 #[(0, 28), (1, 31)], 28) := by decide +kernel
theorem dX9_leastNumber_32 : decode cX9_leastNumber 32 = .ok (.bipush (-128), 2) := by decide +kernel
theorem dX9_leastNumber_34 : decode cX9_leastNumber 34 = .ok (.ireturn, 1) := by decide +kernel
theorem dX9_leastNumber_35 : decode cX9_leastNumber 35 = .ok (.sipush (-32768), 3) := by decide +kernel
theorem dX9_leastNumber_38 : decode cX9_leastNumber 38 = .ok (.ireturn, 1) := by decide +kernel
theorem dX9_leastNumber_39 : decode cX9_leastNumber 39 = .ok (.ldc 49, 2) := by decide +kernel
theorem dX9_leastNumber_41 : decode cX9_leastNumber 41 = .ok (.ireturn, 1) := by decide +kernel
set_option maxRecDepth 20000 in
theorem ggX10_init_X7_init : GoodIn wsX10_init wsX7_init := goodIn_r _ [3, 4, 5, 6] (by decide +kernel) (by decide +kernel)
set_option maxRecDepth 20000 in
theorem gX10_init_X7_init_n1 : GoodIn wsX10_init (wsX7_init) := ggX10_init_X7_init
theorem dX10_init_0 : decode cX10_init 0 = .ok (.aload_n 0, 1) := by decide +kernel
theorem dX10_init_1 : decode cX10_init 1 = .ok (.invokespecial 1, 3) := by decide +kernel
theorem dX10_init_4 : decode cX10_init 4 = .ok (.return_, 1) := by decide +kernel
set_option maxRecDepth 20000 in
theorem ggX10_fingersIn_X7_fingersIn : GoodIn wsX10_fingersIn wsX7_fingersIn := goodIn_r _ [6] (by decide +kernel) (by decide +kernel)
set_option maxRecDepth 20000 in
theorem gX10_fingersIn_X7_fingersIn_s7 : GoodIn wsX10_fingersIn (va_wsSU RX10 7 yX7_fingersIn wsX7_fingersIn) := goodIn_app (goodIn_of _ (by decide +kernel)) ggX10_fingersIn_X7_fingersIn
theorem dX10_fingersIn_0 : decode cX10_fingersIn 0 = .ok (.iconst 2, 1) := by decide +kernel
theorem dX10_fingersIn_1 : decode cX10_fingersIn 1 = .ok (.aload_n 0, 1) := by decide +kernel
theorem dX10_fingersIn_2 : decode cX10_fingersIn 2 = .ok (.iload_n 1, 1) := by decide +kernel
theorem dX10_fingersIn_3 : decode cX10_fingersIn 3 = .ok (.iload_n 2, 1) := by decide +kernel
theorem dX10_fingersIn_4 : decode cX10_fingersIn 4 = .ok (.invokespecial 7, 3) := by decide +kernel
theorem dX10_fingersIn_7 : decode cX10_fingersIn 7 = .ok (.imul, 1) := by decide +kernel
theorem dX10_fingersIn_8 : decode cX10_fingersIn 8 = .ok (.ireturn, 1) := by decide +kernel
set_option maxRecDepth 20000 in
theorem ggX10_melts_X7_melts : GoodIn wsX10_melts wsX7_melts := goodIn_r _ [6] (by decide +kernel) (by decide +kernel)
set_option maxRecDepth 20000 in
theorem gX10_melts_X7_melts_s11 : GoodIn wsX10_melts (va_wsSU RX10 11 yX7_melts wsX7_melts) := goodIn_app (goodIn_of _ (by decide +kernel)) ggX10_melts_X7_melts
theorem dX10_melts_0 : decode cX10_melts 0 = .ok (.aload_n 0, 1) := by decide +kernel
theorem dX10_melts_1 : decode cX10_melts 1 = .ok (.iload_n 1, 1) := by decide +kernel
theorem dX10_melts_2 : decode cX10_melts 2 = .ok (.invokespecial 11, 3) := by decide +kernel
theorem dX10_melts_5 : decode cX10_melts 5 = .ok (.iconst 1, 1) := by decide +kernel
theorem dX10_melts_6 : decode cX10_melts 6 = .ok (.iadd, 1) := by decide +kernel
theorem dX10_melts_7 : decode cX10_melts 7 = .ok (.ireturn, 1) := by decide +kernel
set_option maxRecDepth 20000 in
theorem ggX10_light_X7_light : GoodIn wsX10_light wsX7_light := goodIn_r _ [6] (by decide +kernel) (by decide +kernel)
set_option maxRecDepth 20000 in
theorem gX10_light_X7_light_s15 : GoodIn wsX10_light (va_wsSU RX10 15 yX7_light wsX7_light) := goodIn_app (goodIn_of _ (by decide +kernel)) ggX10_light_X7_light
theorem dX10_light_0 : decode cX10_light 0 = .ok (.aload_n 0, 1) := by decide +kernel
theorem dX10_light_1 : decode cX10_light 1 = .ok (.iload_n 1, 1) := by decide +kernel
theorem dX10_light_2 : decode cX10_light 2 = .ok (.invokespecial 15, 3) := by decide +kernel
theorem dX10_light_5 : decode cX10_light 5 = .ok (.iconst 3, 1) := by decide +kernel
theorem dX10_light_6 : decode cX10_light 6 = .ok (.idiv, 1) := by decide +kernel
theorem dX10_light_7 : decode cX10_light 7 = .ok (.ireturn, 1) := by decide +kernel
set_option maxRecDepth 20000 in
theorem ggX10_tollWith_X7_tollWith : GoodIn wsX10_tollWith wsX7_tollWith := goodIn_r _ [6] (by decide +kernel) (by decide +kernel)
set_option maxRecDepth 20000 in
theorem gX10_tollWith_X7_tollWith_s18 : GoodIn wsX10_tollWith (va_wsSU RX10 18 yX7_tollWith wsX7_tollWith) := goodIn_app (goodIn_of _ (by decide +kernel)) ggX10_tollWith_X7_tollWith
theorem dX10_tollWith_0 : decode cX10_tollWith 0 = .ok (.aload_n 0, 1) := by decide +kernel
theorem dX10_tollWith_1 : decode cX10_tollWith 1 = .ok (.iload_n 1, 1) := by decide +kernel
theorem dX10_tollWith_2 : decode cX10_tollWith 2 = .ok (.invokespecial 18, 3) := by decide +kernel
theorem dX10_tollWith_5 : decode cX10_tollWith 5 = .ok (.iconst 1, 1) := by decide +kernel
theorem dX10_tollWith_6 : decode cX10_tollWith 6 = .ok (.isub, 1) := by decide +kernel
theorem dX10_tollWith_7 : decode cX10_tollWith 7 = .ok (.ireturn, 1) := by decide +kernel
end
section
/-! ===== the Z layer: W with the heap, the written places and the slots of the locals hidden ===== -/
/-- program, launch, environment, room, start state, method, arguments, frames below, method entry, code, goal -/
abbrev zX := Program × Launch × Env × Room × State × MethodId × Array Value × List Frame × Method × Code × (State → Prop)
abbrev zX.s (C : zX) : State := C.2.2.2.2.1
abbrev zX.R (C : zX) : Room := C.2.2.2.1
def zW (C : zX) (H : Heap) (locs : List Loc) (kc ks pc : Nat) (ls : Array Slot) (st : List Value) : Prop :=
  W C.1 C.2.1 C.2.2.1 C.2.2.2.1 C.2.2.2.2.1 C.2.2.2.2.2.1 C.2.2.2.2.2.2.1 C.2.2.2.2.2.2.2.1 C.2.2.2.2.2.2.2.2.1 C.2.2.2.2.2.2.2.2.2.1 H locs kc ks C.2.2.2.2.2.2.2.2.2.2 (F0 C.2.2.2.2.2.1 pc ls st)
/-- the machine at pc, with these locals and this stack, in any heap that holds x -/
def Z {σ : Type} (C : zX) (A : Nat → Prop) (Hp : σ → Heap → Prop) (nL : Nat) (x : σ) (lv : List (Nat × Value)) (kc ks pc : Nat) (st : List Value) : Prop :=
  ∀ (H : Heap) (locs : List Loc) (ls : Array Slot), Hp x H → va_S A C.s.heap H locs → lv_has ls nL lv → zW C H locs kc ks pc ls st
/-- what stays true in the whole method -/
def zOK (C : zX) (cc : ByteArray) (nL : Nat) (Ts : List Cond) (own : String) : Prop :=
  C.1.tables.exec = Jvm.exec ∧ C.2.2.2.2.2.2.2.2.2.1.code = cc ∧ C.2.2.2.2.2.2.2.2.2.1.maxLocals = nL ∧ C.s.vm.findClass own = some C.2.2.2.2.2.1.cls ∧ (∀ w ∈ Ts, w.before C.2.2.2.2.2.2.1 C.s = true) ∧ C.2.2.2.2.2.2.2.2.1.locks = false
section ZR
variable {σ : Type} {C : zX} {A : Nat → Prop} {Hp : σ → Heap → Prop} {nL : Nat} {x : σ} {lv lv' : List (Nat × Value)} {kc ks pc : Nat} {st : List Value} {cc : ByteArray} {Ts : List Cond} {own : String}
theorem z_sub (is : List Nat) (h : lv_pick lv is = lv') (k : Z C A Hp nL x lv' kc ks pc st) : Z C A Hp nL x lv kc ks pc st := fun H locs ls hH hS hl => k H locs ls hH hS (lv_sub hl is h)
theorem z_widen {kc' ks' : Nat} (h1 : kc ≤ kc') (h2 : ks ≤ ks') (k : Z C A Hp nL x lv kc' ks' pc st) : Z C A Hp nL x lv kc ks pc st := fun H locs ls hH hS hl => W.widen h1 h2 (k H locs ls hH hS hl)
theorem z_pc {pc' : Nat} (h : pc = pc') (k : Z C A Hp nL x lv kc ks pc' st) : Z C A Hp nL x lv kc ks pc st := h ▸ k
theorem z_iconst (O : zOK C cc nL Ts own) {n : Int} {v : Int32} (hd : decode cc pc = .ok (.iconst n, 1)) (hv : Int32.ofInt n = v) (k : Z C A Hp nL x lv kc ks (pc + 1) (.int v :: st)) : Z C A Hp nL x lv kc ks pc st := fun H locs ls hH hS hl => lv_iconst O.1 O.2.1 hd hv (k H locs ls hH hS hl)
theorem z_bipush (O : zOK C cc nL Ts own) {n : Int} {v : Int32} (hd : decode cc pc = .ok (.bipush n, 2)) (hv : (Int8.ofInt n).toInt32 = v) (k : Z C A Hp nL x lv kc ks (pc + 2) (.int v :: st)) : Z C A Hp nL x lv kc ks pc st := fun H locs ls hH hS hl => lv_bipush O.1 O.2.1 hd hv (k H locs ls hH hS hl)
theorem z_sipush (O : zOK C cc nL Ts own) {n : Int} {v : Int32} (hd : decode cc pc = .ok (.sipush n, 3)) (hv : (Int16.ofInt n).toInt32 = v) (k : Z C A Hp nL x lv kc ks (pc + 3) (.int v :: st)) : Z C A Hp nL x lv kc ks pc st := fun H locs ls hH hS hl => lv_sipush O.1 O.2.1 hd hv (k H locs ls hH hS hl)
theorem z_lconst (O : zOK C cc nL Ts own) {n : Fin 2} {v : Int64} (hd : decode cc pc = .ok (.lconst n, 1)) (hv : Int64.ofNat (n : Nat) = v) (k : Z C A Hp nL x lv kc ks (pc + 1) (.long v :: st)) : Z C A Hp nL x lv kc ks pc st := fun H locs ls hH hS hl => lv_lconst O.1 O.2.1 hd hv (k H locs ls hH hS hl)
theorem z_null (O : zOK C cc nL Ts own) (hd : decode cc pc = .ok (.aconst_null, 1)) (k : Z C A Hp nL x lv kc ks (pc + 1) (.null :: st)) : Z C A Hp nL x lv kc ks pc st := fun H locs ls hH hS hl => lv_null O.1 O.2.1 hd (k H locs ls hH hS hl)
theorem z_ldc (O : zOK C cc nL Ts own) {index : Nat} {v : Int32} (hc : Jvm.Cond.constant own index v ∈ Ts) (hd : decode cc pc = .ok (.ldc index, 2)) (k : Z C A Hp nL x lv kc ks (pc + 2) (.int v :: st)) : Z C A Hp nL x lv kc ks pc st := fun H locs ls hH hS hl => lv_ldc O.1 O.2.1 O.2.2.2.1 (O.2.2.2.2.1 _ hc) hd (k H locs ls hH hS hl)
theorem z_ldcw (O : zOK C cc nL Ts own) {index : Nat} {v : Int32} (hc : Jvm.Cond.constant own index v ∈ Ts) (hd : decode cc pc = .ok (.ldc_w index, 3)) (k : Z C A Hp nL x lv kc ks (pc + 3) (.int v :: st)) : Z C A Hp nL x lv kc ks pc st := fun H locs ls hH hS hl => lv_ldcw O.1 O.2.1 O.2.2.2.1 (O.2.2.2.2.1 _ hc) hd (k H locs ls hH hS hl)
theorem z_ldc2 (O : zOK C cc nL Ts own) {index : Nat} {v : Int64} (hc : Jvm.Cond.constantLong own index v ∈ Ts) (hd : decode cc pc = .ok (.ldc2_w index, 3)) (k : Z C A Hp nL x lv kc ks (pc + 3) (.long v :: st)) : Z C A Hp nL x lv kc ks pc st := fun H locs ls hH hS hl => lv_ldc2 O.1 O.2.1 O.2.2.2.1 (O.2.2.2.2.1 _ hc) hd (k H locs ls hH hS hl)
theorem z_iload_n (O : zOK C cc nL Ts own) {i : Fin 4} {v : Int32} (hd : decode cc pc = .ok (.iload_n i, 1)) (j : Nat) (hl : lv[j]? = some ((i : Nat), .int v)) (k : Z C A Hp nL x lv kc ks (pc + 1) (.int v :: st)) : Z C A Hp nL x lv kc ks pc st := fun H locs ls hH hS h => lv_iload_n O.1 O.2.1 hd rfl (lv_at h j hl) (k H locs ls hH hS h)
theorem z_iload (O : zOK C cc nL Ts own) {i : Nat} {v : Int32} (hd : decode cc pc = .ok (.iload i, 2)) (j : Nat) (hl : lv[j]? = some (i, .int v)) (k : Z C A Hp nL x lv kc ks (pc + 2) (.int v :: st)) : Z C A Hp nL x lv kc ks pc st := fun H locs ls hH hS h => lv_iload O.1 O.2.1 hd (lv_at h j hl) (k H locs ls hH hS h)
theorem z_lload_n (O : zOK C cc nL Ts own) {i : Fin 4} {v : Int64} (hd : decode cc pc = .ok (.lload_n i, 1)) (j : Nat) (hl : lv[j]? = some ((i : Nat), .long v)) (k : Z C A Hp nL x lv kc ks (pc + 1) (.long v :: st)) : Z C A Hp nL x lv kc ks pc st := fun H locs ls hH hS h => lv_lload_n O.1 O.2.1 hd rfl (lv_at h j hl) (k H locs ls hH hS h)
theorem z_lload (O : zOK C cc nL Ts own) {i : Nat} {v : Int64} (hd : decode cc pc = .ok (.lload i, 2)) (j : Nat) (hl : lv[j]? = some (i, .long v)) (k : Z C A Hp nL x lv kc ks (pc + 2) (.long v :: st)) : Z C A Hp nL x lv kc ks pc st := fun H locs ls hH hS h => lv_lload O.1 O.2.1 hd (lv_at h j hl) (k H locs ls hH hS h)
theorem z_aload_n (O : zOK C cc nL Ts own) {i : Fin 4} {v : Nat} (hd : decode cc pc = .ok (.aload_n i, 1)) (j : Nat) (hl : lv[j]? = some ((i : Nat), .ref v)) (k : Z C A Hp nL x lv kc ks (pc + 1) (.ref v :: st)) : Z C A Hp nL x lv kc ks pc st := fun H locs ls hH hS h => lv_aload_n O.1 O.2.1 hd rfl (lv_at h j hl) (k H locs ls hH hS h)
theorem z_aload (O : zOK C cc nL Ts own) {i : Nat} {v : Nat} (hd : decode cc pc = .ok (.aload i, 2)) (j : Nat) (hl : lv[j]? = some (i, .ref v)) (k : Z C A Hp nL x lv kc ks (pc + 2) (.ref v :: st)) : Z C A Hp nL x lv kc ks pc st := fun H locs ls hH hS h => lv_aload O.1 O.2.1 hd (lv_at h j hl) (k H locs ls hH hS h)
theorem z_aload_nN (O : zOK C cc nL Ts own) {i : Fin 4} (hd : decode cc pc = .ok (.aload_n i, 1)) (j : Nat) (hl : lv[j]? = some ((i : Nat), .null)) (k : Z C A Hp nL x lv kc ks (pc + 1) (.null :: st)) : Z C A Hp nL x lv kc ks pc st := fun H locs ls hH hS h => lv_aload_nN O.1 O.2.1 hd rfl (lv_at h j hl) (k H locs ls hH hS h)
theorem z_aloadN (O : zOK C cc nL Ts own) {i : Nat} (hd : decode cc pc = .ok (.aload i, 2)) (j : Nat) (hl : lv[j]? = some (i, .null)) (k : Z C A Hp nL x lv kc ks (pc + 2) (.null :: st)) : Z C A Hp nL x lv kc ks pc st := fun H locs ls hH hS h => lv_aloadN O.1 O.2.1 hd (lv_at h j hl) (k H locs ls hH hS h)
theorem z_istore_n (O : zOK C cc nL Ts own) {i : Fin 4} {v : Int32} (hd : decode cc pc = .ok (.istore_n i, 1)) (hn : (i : Nat) < nL) (hl : ((i : Nat), Value.int v) :: lv.filter (fun q => !(q.1 == (i : Nat)) && !(q.1 + 1 == (i : Nat) && q.2.category == 2)) = lv') (k : Z C A Hp nL x lv' kc ks (pc + 1) st) : Z C A Hp nL x lv kc ks pc (.int v :: st) := fun H locs ls hH hS h => lv_istore_n O.1 O.2.1 hd rfl h hn hl (fun ls' h' => k H locs ls' hH hS h')
theorem z_istore (O : zOK C cc nL Ts own) {i : Nat} {v : Int32} (hd : decode cc pc = .ok (.istore i, 2)) (hn : i < nL) (hl : (i, Value.int v) :: lv.filter (fun q => !(q.1 == i) && !(q.1 + 1 == i && q.2.category == 2)) = lv') (k : Z C A Hp nL x lv' kc ks (pc + 2) st) : Z C A Hp nL x lv kc ks pc (.int v :: st) := fun H locs ls hH hS h => lv_istore O.1 O.2.1 hd h hn hl (fun ls' h' => k H locs ls' hH hS h')
theorem z_lstore_n (O : zOK C cc nL Ts own) {i : Fin 4} {v : Int64} (hd : decode cc pc = .ok (.lstore_n i, 1)) (hn : (i : Nat) + 1 < nL) (hl : ((i : Nat), Value.long v) :: lv.filter (fun q => !(q.1 == (i : Nat)) && (!(q.1 == (i : Nat) + 1) && !(q.1 + 1 == (i : Nat) && q.2.category == 2))) = lv') (k : Z C A Hp nL x lv' kc ks (pc + 1) st) : Z C A Hp nL x lv kc ks pc (.long v :: st) := fun H locs ls hH hS h => lv_lstore_n O.1 O.2.1 hd rfl h hn hl (fun ls' h' => k H locs ls' hH hS h')
theorem z_lstore (O : zOK C cc nL Ts own) {i : Nat} {v : Int64} (hd : decode cc pc = .ok (.lstore i, 2)) (hn : i + 1 < nL) (hl : (i, Value.long v) :: lv.filter (fun q => !(q.1 == i) && (!(q.1 == i + 1) && !(q.1 + 1 == i && q.2.category == 2))) = lv') (k : Z C A Hp nL x lv' kc ks (pc + 2) st) : Z C A Hp nL x lv kc ks pc (.long v :: st) := fun H locs ls hH hS h => lv_lstore O.1 O.2.1 hd h hn hl (fun ls' h' => k H locs ls' hH hS h')
theorem z_astore_n (O : zOK C cc nL Ts own) {i : Fin 4} {v : Nat} (hd : decode cc pc = .ok (.astore_n i, 1)) (hn : (i : Nat) < nL) (hl : ((i : Nat), Value.ref v) :: lv.filter (fun q => !(q.1 == (i : Nat)) && !(q.1 + 1 == (i : Nat) && q.2.category == 2)) = lv') (k : Z C A Hp nL x lv' kc ks (pc + 1) st) : Z C A Hp nL x lv kc ks pc (.ref v :: st) := fun H locs ls hH hS h => lv_astore_n O.1 O.2.1 hd rfl h hn hl (fun ls' h' => k H locs ls' hH hS h')
theorem z_astore (O : zOK C cc nL Ts own) {i : Nat} {v : Nat} (hd : decode cc pc = .ok (.astore i, 2)) (hn : i < nL) (hl : (i, Value.ref v) :: lv.filter (fun q => !(q.1 == i) && !(q.1 + 1 == i && q.2.category == 2)) = lv') (k : Z C A Hp nL x lv' kc ks (pc + 2) st) : Z C A Hp nL x lv kc ks pc (.ref v :: st) := fun H locs ls hH hS h => lv_astore O.1 O.2.1 hd h hn hl (fun ls' h' => k H locs ls' hH hS h')
theorem z_astore_nN (O : zOK C cc nL Ts own) {i : Fin 4} (hd : decode cc pc = .ok (.astore_n i, 1)) (hn : (i : Nat) < nL) (hl : ((i : Nat), Value.null) :: lv.filter (fun q => !(q.1 == (i : Nat)) && !(q.1 + 1 == (i : Nat) && q.2.category == 2)) = lv') (k : Z C A Hp nL x lv' kc ks (pc + 1) st) : Z C A Hp nL x lv kc ks pc (.null :: st) := fun H locs ls hH hS h => lv_astore_nN O.1 O.2.1 hd rfl h hn hl (fun ls' h' => k H locs ls' hH hS h')
theorem z_astoreN (O : zOK C cc nL Ts own) {i : Nat} (hd : decode cc pc = .ok (.astore i, 2)) (hn : i < nL) (hl : (i, Value.null) :: lv.filter (fun q => !(q.1 == i) && !(q.1 + 1 == i && q.2.category == 2)) = lv') (k : Z C A Hp nL x lv' kc ks (pc + 2) st) : Z C A Hp nL x lv kc ks pc (.null :: st) := fun H locs ls hH hS h => lv_astoreN O.1 O.2.1 hd h hn hl (fun ls' h' => k H locs ls' hH hS h')
theorem z_iinc (O : zOK C cc nL Ts own) {i : Nat} {n : Int} {v w : Int32} (hd : decode cc pc = .ok (.iinc i n, 3)) (j : Nat) (hj : lv[j]? = some (i, .int v)) (hv : v + Int32.ofInt n = w) (hn : i < nL) (hl : (i, Value.int w) :: lv.filter (fun q => !(q.1 == i) && !(q.1 + 1 == i && q.2.category == 2)) = lv') (k : Z C A Hp nL x lv' kc ks (pc + 3) st) : Z C A Hp nL x lv kc ks pc st := fun H locs ls hH hS h => lv_iinc O.1 O.2.1 hd h hj hv hn hl (fun ls' h' => k H locs ls' hH hS h')
theorem z_iadd (O : zOK C cc nL Ts own) {a b : Int32} (hd : decode cc pc = .ok (.iadd, 1)) (k : Z C A Hp nL x lv kc ks (pc + 1) (.int (a + b) :: st)) : Z C A Hp nL x lv kc ks pc (.int b :: .int a :: st) := fun H locs ls hH hS hl => lv_iadd O.1 O.2.1 hd (k H locs ls hH hS hl)
theorem z_isub (O : zOK C cc nL Ts own) {a b : Int32} (hd : decode cc pc = .ok (.isub, 1)) (k : Z C A Hp nL x lv kc ks (pc + 1) (.int (a - b) :: st)) : Z C A Hp nL x lv kc ks pc (.int b :: .int a :: st) := fun H locs ls hH hS hl => lv_isub O.1 O.2.1 hd (k H locs ls hH hS hl)
theorem z_imul (O : zOK C cc nL Ts own) {a b : Int32} (hd : decode cc pc = .ok (.imul, 1)) (k : Z C A Hp nL x lv kc ks (pc + 1) (.int (a * b) :: st)) : Z C A Hp nL x lv kc ks pc (.int b :: .int a :: st) := fun H locs ls hH hS hl => lv_imul O.1 O.2.1 hd (k H locs ls hH hS hl)
theorem z_iand (O : zOK C cc nL Ts own) {a b : Int32} (hd : decode cc pc = .ok (.iand, 1)) (k : Z C A Hp nL x lv kc ks (pc + 1) (.int (a &&& b) :: st)) : Z C A Hp nL x lv kc ks pc (.int b :: .int a :: st) := fun H locs ls hH hS hl => lv_iand O.1 O.2.1 hd (k H locs ls hH hS hl)
theorem z_ior (O : zOK C cc nL Ts own) {a b : Int32} (hd : decode cc pc = .ok (.ior, 1)) (k : Z C A Hp nL x lv kc ks (pc + 1) (.int (a ||| b) :: st)) : Z C A Hp nL x lv kc ks pc (.int b :: .int a :: st) := fun H locs ls hH hS hl => lv_ior O.1 O.2.1 hd (k H locs ls hH hS hl)
theorem z_ixor (O : zOK C cc nL Ts own) {a b : Int32} (hd : decode cc pc = .ok (.ixor, 1)) (k : Z C A Hp nL x lv kc ks (pc + 1) (.int (a ^^^ b) :: st)) : Z C A Hp nL x lv kc ks pc (.int b :: .int a :: st) := fun H locs ls hH hS hl => lv_ixor O.1 O.2.1 hd (k H locs ls hH hS hl)
theorem z_idiv (O : zOK C cc nL Ts own) {a b : Int32} (hd : decode cc pc = .ok (.idiv, 1)) (hne : ¬ b = 0) (k : Z C A Hp nL x lv kc ks (pc + 1) (.int (a / b) :: st)) : Z C A Hp nL x lv kc ks pc (.int b :: .int a :: st) := fun H locs ls hH hS hl => lv_idiv O.1 O.2.1 hd hne (k H locs ls hH hS hl)
theorem z_irem (O : zOK C cc nL Ts own) {a b : Int32} (hd : decode cc pc = .ok (.irem, 1)) (hne : ¬ b = 0) (k : Z C A Hp nL x lv kc ks (pc + 1) (.int (a - a / b * b) :: st)) : Z C A Hp nL x lv kc ks pc (.int b :: .int a :: st) := fun H locs ls hH hS hl => lv_irem O.1 O.2.1 hd hne (k H locs ls hH hS hl)
theorem z_ineg (O : zOK C cc nL Ts own) {a : Int32} (hd : decode cc pc = .ok (.ineg, 1)) (k : Z C A Hp nL x lv kc ks (pc + 1) (.int (-a) :: st)) : Z C A Hp nL x lv kc ks pc (.int a :: st) := fun H locs ls hH hS hl => lv_ineg O.1 O.2.1 hd (k H locs ls hH hS hl)
theorem z_ishl (O : zOK C cc nL Ts own) {a b : Int32} (hd : decode cc pc = .ok (.ishl, 1)) (k : Z C A Hp nL x lv kc ks (pc + 1) (.int (a <<< (b &&& 31)) :: st)) : Z C A Hp nL x lv kc ks pc (.int b :: .int a :: st) := fun H locs ls hH hS hl => lv_ishl O.1 O.2.1 hd (k H locs ls hH hS hl)
theorem z_ishr (O : zOK C cc nL Ts own) {a b : Int32} (hd : decode cc pc = .ok (.ishr, 1)) (k : Z C A Hp nL x lv kc ks (pc + 1) (.int (a >>> (b &&& 31)) :: st)) : Z C A Hp nL x lv kc ks pc (.int b :: .int a :: st) := fun H locs ls hH hS hl => lv_ishr O.1 O.2.1 hd (k H locs ls hH hS hl)
theorem z_iushr (O : zOK C cc nL Ts own) {a b : Int32} (hd : decode cc pc = .ok (.iushr, 1)) (k : Z C A Hp nL x lv kc ks (pc + 1) (.int ((a.toUInt32 >>> (b.toUInt32 &&& Int32.toUInt32 31)).toInt32) :: st)) : Z C A Hp nL x lv kc ks pc (.int b :: .int a :: st) := fun H locs ls hH hS hl => lv_iushr O.1 O.2.1 hd rfl (k H locs ls hH hS hl)
theorem z_i2l (O : zOK C cc nL Ts own) {a : Int32} (hd : decode cc pc = .ok (.i2l, 1)) (k : Z C A Hp nL x lv kc ks (pc + 1) (.long a.toInt64 :: st)) : Z C A Hp nL x lv kc ks pc (.int a :: st) := fun H locs ls hH hS hl => lv_i2l O.1 O.2.1 hd rfl (k H locs ls hH hS hl)
theorem z_l2i (O : zOK C cc nL Ts own) {a : Int64} (hd : decode cc pc = .ok (.l2i, 1)) (k : Z C A Hp nL x lv kc ks (pc + 1) (.int a.toInt32 :: st)) : Z C A Hp nL x lv kc ks pc (.long a :: st) := fun H locs ls hH hS hl => lv_l2i O.1 O.2.1 hd rfl (k H locs ls hH hS hl)
theorem z_i2b (O : zOK C cc nL Ts own) {a : Int32} (hd : decode cc pc = .ok (.i2b, 1)) (k : Z C A Hp nL x lv kc ks (pc + 1) (.int a.toInt8.toInt32 :: st)) : Z C A Hp nL x lv kc ks pc (.int a :: st) := fun H locs ls hH hS hl => lv_i2b O.1 O.2.1 hd rfl (k H locs ls hH hS hl)
theorem z_i2s (O : zOK C cc nL Ts own) {a : Int32} (hd : decode cc pc = .ok (.i2s, 1)) (k : Z C A Hp nL x lv kc ks (pc + 1) (.int a.toInt16.toInt32 :: st)) : Z C A Hp nL x lv kc ks pc (.int a :: st) := fun H locs ls hH hS hl => lv_i2s O.1 O.2.1 hd rfl (k H locs ls hH hS hl)
theorem z_dup (O : zOK C cc nL Ts own) {a : Value} (hd : decode cc pc = .ok (.dup, 1)) (hc : a.category = 1) (k : Z C A Hp nL x lv kc ks (pc + 1) (a :: a :: st)) : Z C A Hp nL x lv kc ks pc (a :: st) := fun H locs ls hH hS hl => lv_dup O.1 O.2.1 hd hc (k H locs ls hH hS hl)
theorem z_pop (O : zOK C cc nL Ts own) {a : Value} (hd : decode cc pc = .ok (.pop, 1)) (hc : a.category = 1) (k : Z C A Hp nL x lv kc ks (pc + 1) st) : Z C A Hp nL x lv kc ks pc (a :: st) := fun H locs ls hH hS hl => lv_pop O.1 O.2.1 hd hc (k H locs ls hH hS hl)
theorem z_dup2 (O : zOK C cc nL Ts own) {a b : Value} (hd : decode cc pc = .ok (.dup2, 1)) (hc : a.category = 1) (hc2 : b.category = 1) (k : Z C A Hp nL x lv kc ks (pc + 1) (a :: b :: a :: b :: st)) : Z C A Hp nL x lv kc ks pc (a :: b :: st) := fun H locs ls hH hS hl => lv_dup2_11 O.1 O.2.1 hd hc hc2 (k H locs ls hH hS hl)
theorem z_goto (O : zOK C cc nL Ts own) {off : Int} (tgt : Nat) (hd : decode cc pc = .ok (.goto off, 3)) (ht : (pc : Int) + off = (tgt : Int)) (k : Z C A Hp nL x lv kc ks tgt st) : Z C A Hp nL x lv kc ks pc st := fun H locs ls hH hS hl => lv_goto O.1 O.2.1 hd ht (k H locs ls hH hS hl)
theorem z_ifnull (O : zOK C cc nL Ts own) {off : Int} {r : Nat} (hd : decode cc pc = .ok (.ifnull off, 3)) (k : Z C A Hp nL x lv kc ks (pc + 3) st) : Z C A Hp nL x lv kc ks pc (.ref r :: st) := fun H locs ls hH hS hl => lv_ifnull O.1 O.2.1 hd (k H locs ls hH hS hl)
theorem z_ifnullN (O : zOK C cc nL Ts own) {off : Int} (tgt : Nat) (hd : decode cc pc = .ok (.ifnull off, 3)) (ht : (pc : Int) + off = (tgt : Int)) (k : Z C A Hp nL x lv kc ks tgt st) : Z C A Hp nL x lv kc ks pc (.null :: st) := fun H locs ls hH hS hl => lv_ifnullN O.1 O.2.1 hd ht (k H locs ls hH hS hl)
theorem z_ifnonnull (O : zOK C cc nL Ts own) {off : Int} {r : Nat} (tgt : Nat) (hd : decode cc pc = .ok (.ifnonnull off, 3)) (ht : (pc : Int) + off = (tgt : Int)) (k : Z C A Hp nL x lv kc ks tgt st) : Z C A Hp nL x lv kc ks pc (.ref r :: st) := fun H locs ls hH hS hl => lv_ifnonnull O.1 O.2.1 hd ht (k H locs ls hH hS hl)
theorem z_ifnonnullN (O : zOK C cc nL Ts own) {off : Int} (hd : decode cc pc = .ok (.ifnonnull off, 3)) (k : Z C A Hp nL x lv kc ks (pc + 3) st) : Z C A Hp nL x lv kc ks pc (.null :: st) := fun H locs ls hH hS hl => lv_ifnonnullN O.1 O.2.1 hd (k H locs ls hH hS hl)
theorem z_lcmp (O : zOK C cc nL Ts own) {a b : Int64} (hd : decode cc pc = .ok (.lcmp, 1)) (k : Z C A Hp nL x lv kc ks (pc + 1) (.int (lg_cmp a b) :: st)) : Z C A Hp nL x lv kc ks pc (.long b :: .long a :: st) := fun H locs ls hH hS hl => W.lcmp O.1 O.2.1 hd (k H locs ls hH hS hl)
end ZR
section ZB
variable {σ : Type} {C : zX} {A : Nat → Prop} {Hp : σ → Heap → Prop} {nL : Nat} {x : σ} {lv lv' : List (Nat × Value)} {kc ks pc : Nat} {st : List Value} {cc : ByteArray} {Ts : List Cond} {own : String}
theorem z_if_eq (O : zOK C cc nL Ts own) {a : Int32} {off : Int} (tgt : Nat) (hd : decode cc pc = .ok (.ifCond .eq off, 3)) (ht : (pc : Int) + off = (tgt : Int)) (kt : a = 0 → Z C A Hp nL x lv kc ks tgt st) (kf : ¬ a = 0 → Z C A Hp nL x lv kc ks (pc + 3) st) : Z C A Hp nL x lv kc ks pc (.int a :: st) := fun H locs ls hH hS hl => lv_if_eq O.1 O.2.1 hd ht (fun q => kt q H locs ls hH hS hl) (fun q => kf q H locs ls hH hS hl)
theorem z_if_ne (O : zOK C cc nL Ts own) {a : Int32} {off : Int} (tgt : Nat) (hd : decode cc pc = .ok (.ifCond .ne off, 3)) (ht : (pc : Int) + off = (tgt : Int)) (kt : ¬ a = 0 → Z C A Hp nL x lv kc ks tgt st) (kf : a = 0 → Z C A Hp nL x lv kc ks (pc + 3) st) : Z C A Hp nL x lv kc ks pc (.int a :: st) := fun H locs ls hH hS hl => lv_if_ne O.1 O.2.1 hd ht (fun q => kt q H locs ls hH hS hl) (fun q => kf q H locs ls hH hS hl)
theorem z_if_lt (O : zOK C cc nL Ts own) {a : Int32} {off : Int} (tgt : Nat) (hd : decode cc pc = .ok (.ifCond .lt off, 3)) (ht : (pc : Int) + off = (tgt : Int)) (kt : a < 0 → Z C A Hp nL x lv kc ks tgt st) (kf : ¬ a < 0 → Z C A Hp nL x lv kc ks (pc + 3) st) : Z C A Hp nL x lv kc ks pc (.int a :: st) := fun H locs ls hH hS hl => lv_if_lt O.1 O.2.1 hd ht (fun q => kt q H locs ls hH hS hl) (fun q => kf q H locs ls hH hS hl)
theorem z_if_ge (O : zOK C cc nL Ts own) {a : Int32} {off : Int} (tgt : Nat) (hd : decode cc pc = .ok (.ifCond .ge off, 3)) (ht : (pc : Int) + off = (tgt : Int)) (kt : 0 ≤ a → Z C A Hp nL x lv kc ks tgt st) (kf : ¬ 0 ≤ a → Z C A Hp nL x lv kc ks (pc + 3) st) : Z C A Hp nL x lv kc ks pc (.int a :: st) := fun H locs ls hH hS hl => lv_if_ge O.1 O.2.1 hd ht (fun q => kt q H locs ls hH hS hl) (fun q => kf q H locs ls hH hS hl)
theorem z_if_gt (O : zOK C cc nL Ts own) {a : Int32} {off : Int} (tgt : Nat) (hd : decode cc pc = .ok (.ifCond .gt off, 3)) (ht : (pc : Int) + off = (tgt : Int)) (kt : 0 < a → Z C A Hp nL x lv kc ks tgt st) (kf : ¬ 0 < a → Z C A Hp nL x lv kc ks (pc + 3) st) : Z C A Hp nL x lv kc ks pc (.int a :: st) := fun H locs ls hH hS hl => lv_if_gt O.1 O.2.1 hd ht (fun q => kt q H locs ls hH hS hl) (fun q => kf q H locs ls hH hS hl)
theorem z_if_le (O : zOK C cc nL Ts own) {a : Int32} {off : Int} (tgt : Nat) (hd : decode cc pc = .ok (.ifCond .le off, 3)) (ht : (pc : Int) + off = (tgt : Int)) (kt : a ≤ 0 → Z C A Hp nL x lv kc ks tgt st) (kf : ¬ a ≤ 0 → Z C A Hp nL x lv kc ks (pc + 3) st) : Z C A Hp nL x lv kc ks pc (.int a :: st) := fun H locs ls hH hS hl => lv_if_le O.1 O.2.1 hd ht (fun q => kt q H locs ls hH hS hl) (fun q => kf q H locs ls hH hS hl)
theorem z_icmp_eq (O : zOK C cc nL Ts own) {a b : Int32} {off : Int} (tgt : Nat) (hd : decode cc pc = .ok (.if_icmp .eq off, 3)) (ht : (pc : Int) + off = (tgt : Int)) (kt : a = b → Z C A Hp nL x lv kc ks tgt st) (kf : ¬ a = b → Z C A Hp nL x lv kc ks (pc + 3) st) : Z C A Hp nL x lv kc ks pc (.int b :: .int a :: st) := fun H locs ls hH hS hl => lv_icmp_eq O.1 O.2.1 hd ht (fun q => kt q H locs ls hH hS hl) (fun q => kf q H locs ls hH hS hl)
theorem z_icmp_ne (O : zOK C cc nL Ts own) {a b : Int32} {off : Int} (tgt : Nat) (hd : decode cc pc = .ok (.if_icmp .ne off, 3)) (ht : (pc : Int) + off = (tgt : Int)) (kt : ¬ a = b → Z C A Hp nL x lv kc ks tgt st) (kf : a = b → Z C A Hp nL x lv kc ks (pc + 3) st) : Z C A Hp nL x lv kc ks pc (.int b :: .int a :: st) := fun H locs ls hH hS hl => lv_icmp_ne O.1 O.2.1 hd ht (fun q => kt q H locs ls hH hS hl) (fun q => kf q H locs ls hH hS hl)
theorem z_icmp_lt (O : zOK C cc nL Ts own) {a b : Int32} {off : Int} (tgt : Nat) (hd : decode cc pc = .ok (.if_icmp .lt off, 3)) (ht : (pc : Int) + off = (tgt : Int)) (kt : a < b → Z C A Hp nL x lv kc ks tgt st) (kf : ¬ a < b → Z C A Hp nL x lv kc ks (pc + 3) st) : Z C A Hp nL x lv kc ks pc (.int b :: .int a :: st) := fun H locs ls hH hS hl => lv_icmp_lt O.1 O.2.1 hd ht (fun q => kt q H locs ls hH hS hl) (fun q => kf q H locs ls hH hS hl)
theorem z_icmp_ge (O : zOK C cc nL Ts own) {a b : Int32} {off : Int} (tgt : Nat) (hd : decode cc pc = .ok (.if_icmp .ge off, 3)) (ht : (pc : Int) + off = (tgt : Int)) (kt : b ≤ a → Z C A Hp nL x lv kc ks tgt st) (kf : ¬ b ≤ a → Z C A Hp nL x lv kc ks (pc + 3) st) : Z C A Hp nL x lv kc ks pc (.int b :: .int a :: st) := fun H locs ls hH hS hl => lv_icmp_ge O.1 O.2.1 hd ht (fun q => kt q H locs ls hH hS hl) (fun q => kf q H locs ls hH hS hl)
theorem z_icmp_gt (O : zOK C cc nL Ts own) {a b : Int32} {off : Int} (tgt : Nat) (hd : decode cc pc = .ok (.if_icmp .gt off, 3)) (ht : (pc : Int) + off = (tgt : Int)) (kt : b < a → Z C A Hp nL x lv kc ks tgt st) (kf : ¬ b < a → Z C A Hp nL x lv kc ks (pc + 3) st) : Z C A Hp nL x lv kc ks pc (.int b :: .int a :: st) := fun H locs ls hH hS hl => lv_icmp_gt O.1 O.2.1 hd ht (fun q => kt q H locs ls hH hS hl) (fun q => kf q H locs ls hH hS hl)
theorem z_icmp_le (O : zOK C cc nL Ts own) {a b : Int32} {off : Int} (tgt : Nat) (hd : decode cc pc = .ok (.if_icmp .le off, 3)) (ht : (pc : Int) + off = (tgt : Int)) (kt : a ≤ b → Z C A Hp nL x lv kc ks tgt st) (kf : ¬ a ≤ b → Z C A Hp nL x lv kc ks (pc + 3) st) : Z C A Hp nL x lv kc ks pc (.int b :: .int a :: st) := fun H locs ls hH hS hl => lv_icmp_le O.1 O.2.1 hd ht (fun q => kt q H locs ls hH hS hl) (fun q => kf q H locs ls hH hS hl)
end ZB
/-! ===== contracts of a fixed form ===== -/
/-- nothing is written: the heap is the first one -/
def z0 {σ : Type} (Hx : σ → Heap → Prop) (H0 : Heap) (x : σ) (H : Heap) : Prop := H = H0 ∧ Hx x H
/-- a method that writes nothing: it answers an int (R), a long (L), a cell by its number or null (E), nothing (V) -/
def zMR {σ : Type} (l : Launch) (y : MethodName) (ws : List Cond) (rm : Room) (Ks : State → Prop) (Hx : σ → Heap → Prop) (x : σ) (av : List Value) (Q : Int32 → Prop) : Prop := Met l y ws rm (va_Pc av (fun U => Hx x U.heap ∧ Ks U)) (vp_Si Q) 0 0 (fun _ => False)
def zML {σ : Type} (l : Launch) (y : MethodName) (ws : List Cond) (rm : Room) (Ks : State → Prop) (Hx : σ → Heap → Prop) (x : σ) (av : List Value) (Q : Int64 → Prop) : Prop := Met l y ws rm (va_Pc av (fun U => Hx x U.heap ∧ Ks U)) (vp_Sl Q) 0 0 (fun _ => False)
def zME {σ : Type} (l : Launch) (y : MethodName) (ws : List Cond) (rm : Room) (Ks : State → Prop) (Hx : σ → Heap → Prop) (ad : Nat → Nat) (x : σ) (av : List Value) (Q : Option Nat → Prop) : Prop := Met l y ws rm (va_Pc av (fun U => Hx x U.heap ∧ Ks U)) (va_Se ad Q) 0 0 (fun _ => False)
def zMV {σ : Type} (l : Launch) (y : MethodName) (ws : List Cond) (rm : Room) (Ks : State → Prop) (Hx : σ → Heap → Prop) (x : σ) (av : List Value) (Q : Unit → Prop) : Prop := Met l y ws rm (va_Pc av (fun U => Hx x U.heap ∧ Ks U)) (va_Sv Q) 0 0 (fun _ => False)
/-- a method that may write the cells B and those from the heap's end on -/
abbrev zA (B : Nat → Prop) (sz : Nat) : Nat → Prop := fun q => B q ∨ sz ≤ q
def zWR {σ : Type} (l : Launch) (y : MethodName) (ws : List Cond) (rm : Room) (Ks : State → Prop) (Hx : σ → Heap → Prop) (B : Nat → Prop) (x : σ) (av : List Value) (mc ms : Nat) (Q : Int32 → σ → Prop) : Prop := ∀ sz : Nat, Met l y ws rm (va_Pc av (fun U => U.heap.size = sz ∧ Hx x U.heap ∧ Ks U)) (va_Qi Q (fun x' t => Hx x' t.heap) (zA B sz)) mc ms (zA B sz)
def zWL {σ : Type} (l : Launch) (y : MethodName) (ws : List Cond) (rm : Room) (Ks : State → Prop) (Hx : σ → Heap → Prop) (B : Nat → Prop) (x : σ) (av : List Value) (mc ms : Nat) (Q : Int64 → σ → Prop) : Prop := ∀ sz : Nat, Met l y ws rm (va_Pc av (fun U => U.heap.size = sz ∧ Hx x U.heap ∧ Ks U)) (va_Ql Q (fun x' t => Hx x' t.heap) (zA B sz)) mc ms (zA B sz)
def zWV {σ : Type} (l : Launch) (y : MethodName) (ws : List Cond) (rm : Room) (Ks : State → Prop) (Hx : σ → Heap → Prop) (B : Nat → Prop) (x : σ) (av : List Value) (mc ms : Nat) (Q : σ → Prop) : Prop := ∀ sz : Nat, Met l y ws rm (va_Pc av (fun U => U.heap.size = sz ∧ Hx x U.heap ∧ Ks U)) (va_Qv Q (fun x' t => Hx x' t.heap) (zA B sz)) mc ms (zA B sz)
/-- what holds of a state's tables for good -/
def zKs (Ks : State → Prop) : Prop := ∀ u U : State, u.WarmedH U.vm → Ks u → Ks U
/-- how a call of y is run, in any heap of HH: any of the kit's call rows -/
def zRun (C : zX) (nL : Nat) (y : MethodName) (ws : List Cond) (rm : Room) (mc ms pc kc ks : Nat) (av : List Value) (st rest : List Value) (HH : Heap → Prop) : Prop :=
  ∀ (Pc : Array Value → State → Prop) (Qc : Array Value → State → Outcome → State → Prop) (free : Addr → Prop), Met C.2.1 y ws rm Pc Qc mc ms free → FrameBlind Pc → ∀ (H : Heap) (locs : List Loc) (ls : Array Slot), HH H → ls.size = nL → (∀ U : State, U.heap = H → C.s.WarmedH U.vm → Pc av.toArray U) →
    va_Run C.1 C.2.1 C.2.2.1 C.2.2.2.1 C.2.2.2.2.1 C.2.2.2.2.2.1 C.2.2.2.2.2.2.1 C.2.2.2.2.2.2.2.1 C.2.2.2.2.2.2.2.2.1 C.2.2.2.2.2.2.2.2.2.1 H locs kc ks mc ms (F0 C.2.2.2.2.2.1 pc ls st) rest (Qc av.toArray) free
section ZC
variable {σ τ : Type} {C : zX} {A : Nat → Prop} {Hp : σ → Heap → Prop} {nL : Nat} {x : σ} {lv lv' : List (Nat × Value)} {kc ks pc : Nat} {st rest : List Value} {cc : ByteArray} {Ts : List Cond} {own : String}
variable {y : MethodName} {ws ws' : List Cond} {rm Rm : Room} {mc ms n index maxL : Nat} {bytes : ByteArray} {ret : Option FieldType} {av As : List Value} {HH : Heap → Prop} {b : Nat} {Cn : String}
theorem zr_V (O : zOK C cc nL Ts own) (hR : C.R = Rm) (n : Nat) (hG : GoodIn Ts (wsV own index Cn y ws)) (hw : ws = Cond.code y bytes maxL ret :: ws') (hrc : rm.cells = mc) (hrs : rm.slots = ms) (hd0 : y.cls = Cn ∧ y.cls ≠ "java/lang/invoke/MethodHandle" ∧ y.cls ≠ "java/lang/invoke/VarHandle" ∧ (parseMethodDescriptor y.desc).map (fun d => d.parameters.length) = some n) (hRm : rm.frames + 1 ≤ Rm.frames ∧ 8 + (maxL + 11) + rm.locals ≤ Rm.locals) (hcs : kc + mc ≤ Rm.cells ∧ ks + ms ≤ Rm.slots) (hrecv : ∀ H, HH H → ∃ cellB : Cell, H[b]? = some cellB ∧ cellB.vm.isStatics = false ∧ C.s.vm.findClass Cn = some cellB.cls) (hn : As.length = n) (hst : st = As.reverse ++ .ref b :: rest) (hcat : (rest.map fun v => v.category).sum ≤ 8) (hd : decode cc pc = .ok (.invokevirtual index, 3)) : zRun C nL y ws rm mc ms pc kc ks (.ref b :: As) st rest HH := by
  subst hR
  intro Pc Qc free hM hbl H locs ls hH hls hpre
  exact va_runV ⟨O.1, O.2.1, O.2.2.1, O.2.2.2.1, O.2.2.2.2.1⟩ hM (cwV n O.2.2.2.2.1 hG hw hrc hrs hd0 hRm) ⟨hbl, hrecv H hH, hpre⟩ rfl hn hls hst (lv_room hcat) hd hcs
theorem zr_S (O : zOK C cc nL Ts own) (hR : C.R = Rm) (n : Nat) (hG : GoodIn Ts (wsS own index y ws)) (hw : ws = Cond.code y bytes maxL ret :: ws') (hrc : rm.cells = mc) (hrs : rm.slots = ms) (hd0 : y.cls = own ∧ y.cls ≠ "java/lang/invoke/MethodHandle" ∧ y.cls ≠ "java/lang/invoke/VarHandle" ∧ (parseMethodDescriptor y.desc).map (fun d => d.parameters.length) = some n) (hRm : rm.frames + 1 ≤ Rm.frames ∧ 8 + (maxL + 11) + rm.locals ≤ Rm.locals) (hcs : kc + mc ≤ Rm.cells ∧ ks + ms ≤ Rm.slots) (hn : As.length = n) (hst : st = As.reverse ++ rest) (hcat : (rest.map fun v => v.category).sum ≤ 8) (hd : decode cc pc = .ok (.invokestatic index, 3)) : zRun C nL y ws rm mc ms pc kc ks As st rest HH := by
  subst hR
  intro Pc Qc free hM hbl H locs ls hH hls hpre
  exact va_runS ⟨O.1, O.2.1, O.2.2.1, O.2.2.2.1, O.2.2.2.2.1⟩ hM (cwS n O.2.2.2.2.1 hG hw hrc hrs hd0 hRm) ⟨hbl, hpre⟩ rfl hn hls hst (lv_room hcat) hd hcs
theorem zr_SS (O : zOK C cc nL Ts own) (hR : C.R = Rm) (n : Nat) (hG : GoodIn Ts (va_wsS own index y ws)) (hw : ws = Cond.code y bytes maxL ret :: ws') (hrc : rm.cells = mc) (hrs : rm.slots = ms) (hd0 : y.cls ≠ "java/lang/invoke/MethodHandle" ∧ y.cls ≠ "java/lang/invoke/VarHandle" ∧ (parseMethodDescriptor y.desc).map (fun d => d.parameters.length) = some n) (hRm : rm.frames + 1 ≤ Rm.frames ∧ 8 + (maxL + 11) + rm.locals ≤ Rm.locals) (hcs : kc + mc ≤ Rm.cells ∧ ks + ms ≤ Rm.slots) (hn : As.length = n) (hst : st = As.reverse ++ rest) (hcat : (rest.map fun v => v.category).sum ≤ 8) (hd : decode cc pc = .ok (.invokestatic index, 3)) : zRun C nL y ws rm mc ms pc kc ks As st rest HH := by
  subst hR
  intro Pc Qc free hM hbl H locs ls hH hls hpre
  exact va_runS ⟨O.1, O.2.1, O.2.2.1, O.2.2.2.1, O.2.2.2.2.1⟩ hM (va_cwS n O.2.2.2.2.1 hG hw hrc hrs hd0 hRm) ⟨hbl, hpre⟩ rfl hn hls hst (lv_room hcat) hd hcs
theorem zr_blind {Hx : τ → Heap → Prop} {Ks : State → Prop} {x0 : τ} (hKs : zKs Ks) : FrameBlind (va_Pc av (fun U => Hx x0 U.heap ∧ Ks U)) := fun a U g mk h => ⟨h.1, h.2.1, hKs U (U.calling g mk a) (State.WarmedH.refl U) h.2.2⟩
theorem zr_blindW {Hx : τ → Heap → Prop} {Ks : State → Prop} {x0 : τ} {sz : Nat} (hKs : zKs Ks) : FrameBlind (va_Pc av (fun U => U.heap.size = sz ∧ Hx x0 U.heap ∧ Ks U)) := fun a U g mk h => ⟨h.1, h.2.1, h.2.2.1, hKs U (U.calling g mk a) (State.WarmedH.refl U) h.2.2.2⟩
theorem zr_call {p : Program} {l : Launch} {e : Env} {R : Room} {s : State} {m : MethodId} {args : Array Value} {below : List Frame} {meth : Method} {c : Code} {H : Heap} {locs : List Loc} {cells slots mc ms : Nat} {g : JFrame} {rest : List Value} {Qa : State → Outcome → State → Prop} {free : Addr → Prop} (h : va_Run p l e R s m args below meth c H locs cells slots mc ms g rest Qa free) : CallRun p l e R s m args below meth c H locs cells slots mc ms g rest Qa free := by
  intro T hT X
  obtain ⟨v, st₀, t, T', L, a1, a2, a3, a4, a5, a6, a7⟩ := h T hT X
  exact ⟨v, st₀, t, T', L, a1, a2, a3, a4, a6, a7⟩
variable {Ks : State → Prop} {Hx : τ → Heap → Prop} {x0 : τ}
theorem z_callR {Q : Int32 → Prop} (hKs : zKs Ks) (hK : Ks C.s) (hx : ∀ H, Hp x H → Hx x0 H) (hM : zMR C.2.1 y ws rm Ks Hx x0 av Q) (hr : zRun C nL y ws rm 0 0 pc kc ks av st rest (Hp x)) (kk : ∀ r : Int32, Q r → Z C A Hp nL x lv kc ks (pc + 3) (.int r :: rest)) : Z C A Hp nL x lv kc ks pc st := fun H locs ls hH hS hl =>
  vp_callSi (zr_call (hr _ _ _ hM (zr_blind hKs) H locs ls hH hl.1 (fun U hU hW => ⟨rfl, by rw [hU]; exact hx H hH, hKs _ _ hW hK⟩))) (fun r hq => kk r hq H locs ls hH hS hl)
theorem z_callL {Q : Int64 → Prop} (hKs : zKs Ks) (hK : Ks C.s) (hx : ∀ H, Hp x H → Hx x0 H) (hM : zML C.2.1 y ws rm Ks Hx x0 av Q) (hr : zRun C nL y ws rm 0 0 pc kc ks av st rest (Hp x)) (kk : ∀ r : Int64, Q r → Z C A Hp nL x lv kc ks (pc + 3) (.long r :: rest)) : Z C A Hp nL x lv kc ks pc st := fun H locs ls hH hS hl =>
  vp_callSl (zr_call (hr _ _ _ hM (zr_blind hKs) H locs ls hH hl.1 (fun U hU hW => ⟨rfl, by rw [hU]; exact hx H hH, hKs _ _ hW hK⟩))) (fun r hq => kk r hq H locs ls hH hS hl)
theorem z_callV {Q : Unit → Prop} (hKs : zKs Ks) (hK : Ks C.s) (hx : ∀ H, Hp x H → Hx x0 H) (hM : zMV C.2.1 y ws rm Ks Hx x0 av Q) (hr : zRun C nL y ws rm 0 0 pc kc ks av st rest (Hp x)) (kk : Q () → Z C A Hp nL x lv kc ks (pc + 3) rest) : Z C A Hp nL x lv kc ks pc st := fun H locs ls hH hS hl =>
  va_csv (zr_call (hr _ _ _ hM (zr_blind hKs) H locs ls hH hl.1 (fun U hU hW => ⟨rfl, by rw [hU]; exact hx H hH, hKs _ _ hW hK⟩))) (fun hq => kk hq H locs ls hH hS hl)
theorem z_callE {Q : Option Nat → Prop} {ad : Nat → Nat} (hKs : zKs Ks) (hK : Ks C.s) (hx : ∀ H, Hp x H → Hx x0 H) (hM : zME C.2.1 y ws rm Ks Hx ad x0 av Q) (hr : zRun C nL y ws rm 0 0 pc kc ks av st rest (Hp x)) (k0 : Q none → Z C A Hp nL x lv kc ks (pc + 3) (.null :: rest)) (k1 : ∀ i : Nat, Q (some i) → Z C A Hp nL x lv kc ks (pc + 3) (.ref (ad i) :: rest)) : Z C A Hp nL x lv kc ks pc st := fun H locs ls hH hS hl =>
  va_cse (zr_call (hr _ _ _ hM (zr_blind hKs) H locs ls hH hl.1 (fun U hU hW => ⟨rfl, by rw [hU]; exact hx H hH, hKs _ _ hW hK⟩))) (fun r hq => by
    cases r with
    | none => exact k0 hq H locs ls hH hS hl
    | some i => exact k1 i hq H locs ls hH hS hl)
/-- behind a call that writes: what the callee leaves, beside what it doesn't touch -/
def zJoin {σ τ : Type} (Hp : σ → Heap → Prop) (Hx : τ → Heap → Prop) (B : Nat → Prop) (x : σ) (up : τ → σ) : Prop := ∀ (H H1 : Heap) (u : τ), Hp x H → (∀ q : Nat, q < H.size → ¬ B q → H1[q]? = H[q]?) → H.size ≤ H1.size → Hx u H1 → Hp (up u) H1
theorem z_callWR {B : Nat → Prop} {Q : Int32 → τ → Prop} (up : τ → σ) (hKs : zKs Ks) (hK : Ks C.s) (hx : ∀ H, Hp x H → Hx x0 H) (hj : zJoin Hp Hx B x up) (hB : ∀ q, B q → A q) (hA : ∀ q, C.s.heap.size ≤ q → A q) (hM : zWR C.2.1 y ws rm Ks Hx B x0 av mc ms Q) (hr : zRun C nL y ws rm mc ms pc kc ks av st rest (Hp x)) (kk : ∀ (r : Int32) (u : τ), Q r u → Z C A Hp nL (up u) lv (kc + mc) (ks + ms) (pc + 3) (.int r :: rest)) : Z C A Hp nL x lv kc ks pc st := fun H locs ls hH hS hl =>
  va_calli (hr _ _ _ (hM H.size) (zr_blindW hKs) H locs ls hH hl.1 (fun U hU hW => ⟨rfl, by rw [hU], by rw [hU]; exact hx H hH, hKs _ _ hW hK⟩)) hS (fun q _ h => h.elim (hB q) (fun h => hA q (Nat.le_trans hS.1 h))) (fun q h => h.elim (hB q) (fun h => hA q (Nat.le_trans hS.1 h)))
    (fun r u t H1 locs1 ht _ hw hb hz hk hS1 => kk r u hw H1 locs1 ls (hj H H1 u hH (fun q h1 h2 => hk q h1 (fun h => h.elim h2 (fun h => absurd h1 (Nat.not_lt.mpr h)))) hz (by rw [← ht]; exact hb)) hS1 hl)
theorem z_callWL {B : Nat → Prop} {Q : Int64 → τ → Prop} (up : τ → σ) (hKs : zKs Ks) (hK : Ks C.s) (hx : ∀ H, Hp x H → Hx x0 H) (hj : zJoin Hp Hx B x up) (hB : ∀ q, B q → A q) (hA : ∀ q, C.s.heap.size ≤ q → A q) (hM : zWL C.2.1 y ws rm Ks Hx B x0 av mc ms Q) (hr : zRun C nL y ws rm mc ms pc kc ks av st rest (Hp x)) (kk : ∀ (r : Int64) (u : τ), Q r u → Z C A Hp nL (up u) lv (kc + mc) (ks + ms) (pc + 3) (.long r :: rest)) : Z C A Hp nL x lv kc ks pc st := fun H locs ls hH hS hl =>
  va_calll (hr _ _ _ (hM H.size) (zr_blindW hKs) H locs ls hH hl.1 (fun U hU hW => ⟨rfl, by rw [hU], by rw [hU]; exact hx H hH, hKs _ _ hW hK⟩)) hS (fun q _ h => h.elim (hB q) (fun h => hA q (Nat.le_trans hS.1 h))) (fun q h => h.elim (hB q) (fun h => hA q (Nat.le_trans hS.1 h)))
    (fun r u t H1 locs1 ht _ hw hb hz hk hS1 => kk r u hw H1 locs1 ls (hj H H1 u hH (fun q h1 h2 => hk q h1 (fun h => h.elim h2 (fun h => absurd h1 (Nat.not_lt.mpr h)))) hz (by rw [← ht]; exact hb)) hS1 hl)
theorem z_callWV {B : Nat → Prop} {Q : τ → Prop} (up : τ → σ) (hKs : zKs Ks) (hK : Ks C.s) (hx : ∀ H, Hp x H → Hx x0 H) (hj : zJoin Hp Hx B x up) (hB : ∀ q, B q → A q) (hA : ∀ q, C.s.heap.size ≤ q → A q) (hM : zWV C.2.1 y ws rm Ks Hx B x0 av mc ms Q) (hr : zRun C nL y ws rm mc ms pc kc ks av st rest (Hp x)) (kk : ∀ (u : τ), Q u → Z C A Hp nL (up u) lv (kc + mc) (ks + ms) (pc + 3) rest) : Z C A Hp nL x lv kc ks pc st := fun H locs ls hH hS hl =>
  va_callv (hr _ _ _ (hM H.size) (zr_blindW hKs) H locs ls hH hl.1 (fun U hU hW => ⟨rfl, by rw [hU], by rw [hU]; exact hx H hH, hKs _ _ hW hK⟩)) hS (fun q _ h => h.elim (hB q) (fun h => hA q (Nat.le_trans hS.1 h))) (fun q h => h.elim (hB q) (fun h => hA q (Nat.le_trans hS.1 h)))
    (fun u t H1 locs1 ht _ hw hb hz hk hS1 => kk u hw H1 locs1 ls (hj H H1 u hH (fun q h1 h2 => hk q h1 (fun h => h.elim h2 (fun h => absurd h1 (Nat.not_lt.mpr h)))) hz (by rw [← ht]; exact hb)) hS1 hl)
end ZC
/-- the room, the answer's type, the goal -/
def zEnd (C : zX) (Rm : Room) (ret : Option FieldType) (Qc : Array Value → State → Outcome → State → Prop) (mc ms : Nat) (free : Nat → Prop) : Prop :=
  C.R = Rm ∧ C.2.2.2.2.2.2.2.2.1.sig.returnType = ret ∧ C.2.2.2.2.2.2.2.2.2.2 = MQ C.2.2.2.2.2.2.2.1 Qc C.2.2.2.2.2.2.1 C.s mc ms free
section ZE
variable {σ : Type} {C : zX} {A : Nat → Prop} {Hx : σ → Heap → Prop} {nL : Nat} {x : σ} {lv : List (Nat × Value)} {kc ks pc : Nat} {cc : ByteArray} {Ts : List Cond} {own : String} {Rm : Room} {ret : Option FieldType}
theorem z_none {A : Nat → Prop} {H0 H : Heap} {locs : List Loc} (h : va_S (fun _ => False) H0 H locs) : ∀ q ∈ locs, (fun _ : Nat => False) q.base := h.2.2
theorem z_retR {Hp : σ → Heap → Prop} {Q : Int32 → Prop} {v : Int32} {ty : FieldType} (O : zOK C cc nL Ts own) (hE : zEnd C Rm (some ty) (vp_Si Q) 0 0 (fun _ => False)) (hH0 : ∀ H, Hp x H → H = C.s.heap) (hn : narrow ty (.int v) = .int v) (hd : decode cc pc = .ok (.ireturn, 1)) (hq : Q v) : Z C (fun _ => False) Hp nL x lv 0 0 pc [.int v] := by
  intro H locs ls hH hS hl
  unfold zW
  rw [hE.2.2]
  exact W.zret O.1 O.2.1 hE.2.1 hn (fun t ht _ => ⟨v, rfl, hq, by rw [ht]; exact hH0 H hH⟩) hS.2.2 hd O.2.2.2.2.2
theorem z_retL {Hp : σ → Heap → Prop} {Q : Int64 → Prop} {v : Int64} (O : zOK C cc nL Ts own) (hE : zEnd C Rm (some .long) (vp_Sl Q) 0 0 (fun _ => False)) (hH0 : ∀ H, Hp x H → H = C.s.heap) (hd : decode cc pc = .ok (.lreturn, 1)) (hq : Q v) : Z C (fun _ => False) Hp nL x lv 0 0 pc [.long v] := by
  intro H locs ls hH hS hl
  unfold zW
  rw [hE.2.2]
  exact W.lret O.1 O.2.1 hE.2.1 (fun t ht _ => ⟨v, rfl, hq, by rw [ht]; exact hH0 H hH⟩) hS.2.2 hd O.2.2.2.2.2
theorem z_retV {Hp : σ → Heap → Prop} {Q : Unit → Prop} (O : zOK C cc nL Ts own) (hE : zEnd C Rm none (va_Sv Q) 0 0 (fun _ => False)) (hH0 : ∀ H, Hp x H → H = C.s.heap) (hd : decode cc pc = .ok (.return_, 1)) (hq : Q ()) : Z C (fun _ => False) Hp nL x lv 0 0 pc [] := by
  intro H locs ls hH hS hl
  unfold zW
  rw [hE.2.2]
  exact W.vret O.1 O.2.1 hE.2.1 (fun t ht _ => ⟨rfl, hq, by rw [ht]; exact hH0 H hH⟩) hS.2.2 hd O.2.2.2.2.2
theorem z_retE {Hp : σ → Heap → Prop} {Q : Option Nat → Prop} {ad : Nat → Nat} {r : Option Nat} {v : Value} {rt : FieldType} (O : zOK C cc nL Ts own) (hE : zEnd C Rm (some rt) (va_Se ad Q) 0 0 (fun _ => False)) (hH0 : ∀ H, Hp x H → H = C.s.heap) (hrt : (∃ n, rt = .object n) ∨ ∃ t, rt = .array t) (hv : v = va_re ad r) (hd : decode cc pc = .ok (.areturn, 1)) (hq : Q r) : Z C (fun _ => False) Hp nL x lv 0 0 pc [v] := by
  intro H locs ls hH hS hl
  unfold zW
  rw [hE.2.2]
  exact W.aret O.1 O.2.1 hE.2.1 hrt (by rw [hv]; cases r with | none => exact Or.inl rfl | some a => exact Or.inr ⟨_, rfl⟩) (fun t ht _ => ⟨r, by rw [hv], hq, by rw [ht]; exact hH0 H hH⟩) hS.2.2 hd O.2.2.2.2.2
variable {B : Nat → Prop} {mc ms : Nat}
theorem z_retWR {Q : Int32 → σ → Prop} {v : Int32} {ty : FieldType} (O : zOK C cc nL Ts own) (hE : zEnd C Rm (some ty) (va_Qi Q (fun x' t => Hx x' t.heap) (zA B C.s.heap.size)) mc ms (zA B C.s.heap.size)) (h1 : kc ≤ mc) (h2 : ks ≤ ms) (hn : narrow ty (.int v) = .int v) (hd : decode cc pc = .ok (.ireturn, 1)) (hq : Q v x) : Z C (zA B C.s.heap.size) Hx nL x lv kc ks pc [.int v] := by
  intro H locs ls hH hS hl
  unfold zW
  rw [hE.2.2]
  exact W.widen h1 h2 (W.zret O.1 O.2.1 hE.2.1 hn (fun t ht _ => ⟨⟨v, x, rfl, hq, (show Hx x t.heap by rw [ht]; exact hH)⟩, hS.F ht⟩) hS.2.2 hd O.2.2.2.2.2)
theorem z_retWL {Q : Int64 → σ → Prop} {v : Int64} (O : zOK C cc nL Ts own) (hE : zEnd C Rm (some .long) (va_Ql Q (fun x' t => Hx x' t.heap) (zA B C.s.heap.size)) mc ms (zA B C.s.heap.size)) (h1 : kc ≤ mc) (h2 : ks ≤ ms) (hd : decode cc pc = .ok (.lreturn, 1)) (hq : Q v x) : Z C (zA B C.s.heap.size) Hx nL x lv kc ks pc [.long v] := by
  intro H locs ls hH hS hl
  unfold zW
  rw [hE.2.2]
  exact W.widen h1 h2 (W.lret O.1 O.2.1 hE.2.1 (fun t ht _ => ⟨⟨v, x, rfl, hq, (show Hx x t.heap by rw [ht]; exact hH)⟩, hS.F ht⟩) hS.2.2 hd O.2.2.2.2.2)
theorem z_retWV {Q : σ → Prop} (O : zOK C cc nL Ts own) (hE : zEnd C Rm none (va_Qv Q (fun x' t => Hx x' t.heap) (zA B C.s.heap.size)) mc ms (zA B C.s.heap.size)) (h1 : kc ≤ mc) (h2 : ks ≤ ms) (hd : decode cc pc = .ok (.return_, 1)) (hq : Q x) : Z C (zA B C.s.heap.size) Hx nL x lv kc ks pc [] := by
  intro H locs ls hH hS hl
  unfold zW
  rw [hE.2.2]
  exact W.widen h1 h2 (W.vret O.1 O.2.1 hE.2.1 (fun t ht _ => ⟨⟨x, rfl, hq, (show Hx x t.heap by rw [ht]; exact hH)⟩, hS.F ht⟩) hS.2.2 hd O.2.2.2.2.2)
end ZE
section ZM
variable {σ : Type} {l : Launch} {y : MethodName} {ws ws' : List Cond} {rm : Room} {Ks : State → Prop} {Hx : σ → Heap → Prop} {x : σ} {av : List Value} {cc : ByteArray} {nL : Nat} {ret : Option FieldType}
/-- a method's body, from its entry -/
theorem z_body {Pc : Array Value → State → Prop} {Qc : Array Value → State → Outcome → State → Prop} {mc ms : Nat} {free : Nat → Prop} (hy : plainName y.cls = true) (hw : ws = Cond.code y cc nL ret :: ws') (hlen : (lg_sl av).length ≤ nL) (hPc : ∀ a s, Pc a s → a = av.toArray)
    (body : ∀ C : zX, zOK C cc nL ws y.cls → zEnd C rm ret Qc mc ms free → C.2.1 = l → Pc av.toArray C.s → C.2.2.2.2.2.2.1 = av.toArray → C.2.2.2.2.2.2.2.2.1.name = y.name → ∀ ls : Array Slot, lv_has ls nL (lv_args 0 av) → zW C C.s.heap [] 0 0 0 ls []) : Met l y ws rm Pc Qc mc ms free := by
  refine Met.ofW (cc := cc) (maxL := nL) (ret := ret) hy hw ?_
  intro p e s m args below meth c s₁ B hml hv
  have ha := hPc _ _ hv
  subst ha
  have hl := lv_entry av (n := nL) hlen
  rw [lg_entry_eq]
  exact body (p, l, e, _, s, m, av.toArray, below, meth, c, _) ⟨B.exec, B.bytes, hml, findClass_of_methodNamed B.named, atoms_spec (ws := ws) B.pre, B.notSynchronized⟩ ⟨rfl, B.returns, rfl⟩ rfl hv rfl (name_of_methodNamed B.named B.method).1 _ hl
theorem zMR_of {Q : Int32 → Prop} (hy : plainName y.cls = true) (hw : ws = Cond.code y cc nL ret :: ws') (hlen : (lg_sl av).length ≤ nL) (body : ∀ C : zX, C.2.1 = l → zOK C cc nL ws y.cls → zEnd C rm ret (vp_Si Q) 0 0 (fun _ => False) → Ks C.s → Hx x C.s.heap → Z C (fun _ => False) (z0 Hx C.s.heap) nL x (lv_args 0 av) 0 0 0 []) : zMR l y ws rm Ks Hx x av Q :=
  z_body hy hw hlen (fun _ _ h => h.1) (fun C O hE hl h _ _ ls hls => body C hl O hE h.2.2 h.2.1 C.s.heap [] ls ⟨rfl, h.2.1⟩ va_S.rf hls)
theorem zML_of {Q : Int64 → Prop} (hy : plainName y.cls = true) (hw : ws = Cond.code y cc nL ret :: ws') (hlen : (lg_sl av).length ≤ nL) (body : ∀ C : zX, C.2.1 = l → zOK C cc nL ws y.cls → zEnd C rm ret (vp_Sl Q) 0 0 (fun _ => False) → Ks C.s → Hx x C.s.heap → Z C (fun _ => False) (z0 Hx C.s.heap) nL x (lv_args 0 av) 0 0 0 []) : zML l y ws rm Ks Hx x av Q :=
  z_body hy hw hlen (fun _ _ h => h.1) (fun C O hE hl h _ _ ls hls => body C hl O hE h.2.2 h.2.1 C.s.heap [] ls ⟨rfl, h.2.1⟩ va_S.rf hls)
theorem zMV_of {Q : Unit → Prop} (hy : plainName y.cls = true) (hw : ws = Cond.code y cc nL ret :: ws') (hlen : (lg_sl av).length ≤ nL) (body : ∀ C : zX, C.2.1 = l → zOK C cc nL ws y.cls → zEnd C rm ret (va_Sv Q) 0 0 (fun _ => False) → Ks C.s → Hx x C.s.heap → Z C (fun _ => False) (z0 Hx C.s.heap) nL x (lv_args 0 av) 0 0 0 []) : zMV l y ws rm Ks Hx x av Q :=
  z_body hy hw hlen (fun _ _ h => h.1) (fun C O hE hl h _ _ ls hls => body C hl O hE h.2.2 h.2.1 C.s.heap [] ls ⟨rfl, h.2.1⟩ va_S.rf hls)
theorem zME_of {Q : Option Nat → Prop} {ad : Nat → Nat} (hy : plainName y.cls = true) (hw : ws = Cond.code y cc nL ret :: ws') (hlen : (lg_sl av).length ≤ nL) (body : ∀ C : zX, C.2.1 = l → zOK C cc nL ws y.cls → zEnd C rm ret (va_Se ad Q) 0 0 (fun _ => False) → Ks C.s → Hx x C.s.heap → Z C (fun _ => False) (z0 Hx C.s.heap) nL x (lv_args 0 av) 0 0 0 []) : zME l y ws rm Ks Hx ad x av Q :=
  z_body hy hw hlen (fun _ _ h => h.1) (fun C O hE hl h _ _ ls hls => body C hl O hE h.2.2 h.2.1 C.s.heap [] ls ⟨rfl, h.2.1⟩ va_S.rf hls)
theorem zWR_of {B : Nat → Prop} {mc ms : Nat} {Q : Int32 → σ → Prop} (hy : plainName y.cls = true) (hw : ws = Cond.code y cc nL ret :: ws') (hlen : (lg_sl av).length ≤ nL) (body : ∀ C : zX, C.2.1 = l → zOK C cc nL ws y.cls → zEnd C rm ret (va_Qi Q (fun x' t => Hx x' t.heap) (zA B C.s.heap.size)) mc ms (zA B C.s.heap.size) → Ks C.s → Z C (zA B C.s.heap.size) Hx nL x (lv_args 0 av) 0 0 0 []) : zWR l y ws rm Ks Hx B x av mc ms Q := by
  intro sz
  refine z_body hy hw hlen (fun _ _ h => h.1) (fun C O hE hl h _ _ ls hls => ?_)
  obtain ⟨-, rfl, h3, h4⟩ := h
  exact body C hl O hE h4 C.s.heap [] ls h3 va_S.rf hls
theorem zWL_of {B : Nat → Prop} {mc ms : Nat} {Q : Int64 → σ → Prop} (hy : plainName y.cls = true) (hw : ws = Cond.code y cc nL ret :: ws') (hlen : (lg_sl av).length ≤ nL) (body : ∀ C : zX, C.2.1 = l → zOK C cc nL ws y.cls → zEnd C rm ret (va_Ql Q (fun x' t => Hx x' t.heap) (zA B C.s.heap.size)) mc ms (zA B C.s.heap.size) → Ks C.s → Z C (zA B C.s.heap.size) Hx nL x (lv_args 0 av) 0 0 0 []) : zWL l y ws rm Ks Hx B x av mc ms Q := by
  intro sz
  refine z_body hy hw hlen (fun _ _ h => h.1) (fun C O hE hl h _ _ ls hls => ?_)
  obtain ⟨-, rfl, h3, h4⟩ := h
  exact body C hl O hE h4 C.s.heap [] ls h3 va_S.rf hls
theorem zWV_of {B : Nat → Prop} {mc ms : Nat} {Q : σ → Prop} (hy : plainName y.cls = true) (hw : ws = Cond.code y cc nL ret :: ws') (hlen : (lg_sl av).length ≤ nL) (body : ∀ C : zX, C.2.1 = l → zOK C cc nL ws y.cls → zEnd C rm ret (va_Qv Q (fun x' t => Hx x' t.heap) (zA B C.s.heap.size)) mc ms (zA B C.s.heap.size) → Ks C.s → Z C (zA B C.s.heap.size) Hx nL x (lv_args 0 av) 0 0 0 []) : zWV l y ws rm Ks Hx B x av mc ms Q := by
  intro sz
  refine z_body hy hw hlen (fun _ _ h => h.1) (fun C O hE hl h _ _ ls hls => ?_)
  obtain ⟨-, rfl, h3, h4⟩ := h
  exact body C hl O hE h4 C.s.heap [] ls h3 va_S.rf hls
end ZM
section ZC2
variable {σ : Type} {C : zX} {A : Nat → Prop} {Hp : σ → Heap → Prop} {nL : Nat} {x : σ} {lv : List (Nat × Value)} {kc ks pc : Nat} {st rest : List Value} {cc : ByteArray} {Ts : List Cond} {own : String}
variable {y z : MethodName} {ws ws' : List Cond} {rm Rm : Room} {mc ms n index maxL : Nat} {bytes : ByteArray} {ret : Option FieldType} {As : List Value} {HH : Heap → Prop} {b : Nat} {Cn owner : String}
theorem zr_U (O : zOK C cc nL Ts own) (hR : C.R = Rm) (n : Nat) (hG : GoodIn Ts (va_wsU own index Cn owner z y ws)) (hw : ws = Cond.code y bytes maxL ret :: ws') (hrc : rm.cells = mc) (hrs : rm.slots = ms) (hyx : y = ⟨owner, z.name, z.desc⟩) (hd0 : owner ≠ "java/lang/invoke/MethodHandle" ∧ owner ≠ "java/lang/invoke/VarHandle" ∧ (parseMethodDescriptor z.desc).map (fun d => d.parameters.length) = some n) (hRm : rm.frames + 1 ≤ Rm.frames ∧ 8 + (maxL + 11) + rm.locals ≤ Rm.locals) (hcs : kc + mc ≤ Rm.cells ∧ ks + ms ≤ Rm.slots) (hrecv : ∀ H, HH H → ∃ cellB : Cell, H[b]? = some cellB ∧ cellB.vm.isStatics = false ∧ C.s.vm.findClass Cn = some cellB.cls) (hn : As.length = n) (hst : st = As.reverse ++ .ref b :: rest) (hcat : (rest.map fun v => v.category).sum ≤ 8) (hd : decode cc pc = .ok (.invokevirtual index, 3)) : zRun C nL y ws rm mc ms pc kc ks (.ref b :: As) st rest HH := by
  subst hR
  intro Pc Qc free hM hbl H locs ls hH hls hpre
  exact va_runU ⟨O.1, O.2.1, O.2.2.1, O.2.2.2.1, O.2.2.2.2.1⟩ hM (va_cwU n O.2.2.2.2.1 hG hw hrc hrs hyx hd0 hRm) ⟨hbl, hrecv H hH, hpre⟩ rfl hn hls hst (lv_room hcat) hd hcs
theorem zr_O (O : zOK C cc nL Ts own) (hR : C.R = Rm) (n : Nat) (hG : GoodIn Ts (va_wsO own index Cn owner z y ws)) (hw : ws = Cond.code y bytes maxL ret :: ws') (hrc : rm.cells = mc) (hrs : rm.slots = ms) {b0 : ByteArray} {m0 : Nat} {r0 : Option FieldType} (h0 : Cond.code ⟨owner, z.name, z.desc⟩ b0 m0 r0 ∈ Ts) (hd0 : owner ≠ "java/lang/invoke/MethodHandle" ∧ owner ≠ "java/lang/invoke/VarHandle" ∧ (parseMethodDescriptor z.desc).map (fun d => d.parameters.length) = some n) (hRm : rm.frames + 1 ≤ Rm.frames ∧ 8 + (maxL + 11) + rm.locals ≤ Rm.locals) (hcs : kc + mc ≤ Rm.cells ∧ ks + ms ≤ Rm.slots) (hrecv : ∀ H, HH H → ∃ cellB : Cell, H[b]? = some cellB ∧ cellB.vm.isStatics = false ∧ C.s.vm.findClass Cn = some cellB.cls) (hn : As.length = n) (hst : st = As.reverse ++ .ref b :: rest) (hcat : (rest.map fun v => v.category).sum ≤ 8) (hd : decode cc pc = .ok (.invokevirtual index, 3)) : zRun C nL y ws rm mc ms pc kc ks (.ref b :: As) st rest HH := by
  subst hR
  intro Pc Qc free hM hbl H locs ls hH hls hpre
  exact va_runU ⟨O.1, O.2.1, O.2.2.1, O.2.2.2.1, O.2.2.2.2.1⟩ hM (va_cwO n O.2.2.2.2.1 hG hw hrc hrs h0 hd0 hRm) ⟨hbl, hrecv H hH, hpre⟩ rfl hn hls hst (lv_room hcat) hd hcs
theorem zr_SU {cC : ClassId} (hat : ClassAt C.s Cn cC) (O : zOK C cc nL Ts own) (hR : C.R = Rm) (n : Nat) (hG : GoodIn Ts (va_wsSU own index y ws)) (hw : ws = Cond.code y bytes maxL ret :: ws') (hrc : rm.cells = mc) (hrs : rm.slots = ms) (hd0 : y.name ≠ "<init>" ∧ (parseMethodDescriptor y.desc).map (fun d => d.parameters.length) = some n) (hRm : rm.frames + 1 ≤ Rm.frames ∧ 8 + (maxL + 11) + rm.locals ≤ Rm.locals) (hcs : kc + mc ≤ Rm.cells ∧ ks + ms ≤ Rm.slots) (hrecv : ∀ H, HH H → ∃ cellB : Cell, H[b]? = some cellB ∧ cellB.vm.isStatics = false ∧ C.s.vm.findClass Cn = some cellB.cls) (hn : As.length = n) (hst : st = As.reverse ++ .ref b :: rest) (hcat : (rest.map fun v => v.category).sum ≤ 8) (hd : decode cc pc = .ok (.invokespecial index, 3)) : zRun C nL y ws rm mc ms pc kc ks (.ref b :: As) st rest HH := by
  subst hR
  intro Pc Qc free hM hbl H locs ls hH hls hpre
  exact va_runSU hat ⟨O.1, O.2.1, O.2.2.1, O.2.2.2.1, O.2.2.2.2.1⟩ hM (va_cwSU n O.2.2.2.2.1 hG hw hrc hrs hd0 hRm) ⟨hbl, hrecv H hH, hpre⟩ rfl hn hls hst (lv_room hcat) hd hcs
theorem z_max (O : zOK C cc nL Ts own) (hR : C.R = Rm) (hlink : Cond.methodLink own index Lib.Math.max.name ∈ Ts) (hstat : Cond.static Lib.Math.max.name ∈ Ts) (hini : Cond.initialized "java/lang/Math" ∈ Ts) (hcode : Cond.code Lib.Math.max.name Lib.Math.max.code 2 (some .int) ∈ Ts) (hRm : 1 ≤ Rm.frames ∧ (rest.map fun v => v.category).sum + 13 ≤ Rm.locals ∧ kc ≤ Rm.cells ∧ ks ≤ Rm.slots) {a b : Int32} (hd : decode cc pc = .ok (.invokestatic index, 3)) (k : Z C A Hp nL x lv kc ks (pc + 3) (.int (if a < b then b else a) :: rest)) : Z C A Hp nL x lv kc ks pc (.int b :: .int a :: rest) := by
  subst hR
  intro H locs ls hH hS hl
  exact va_mmax O.1 O.2.1 (O.2.2.1.trans hl.1.symm) O.2.2.2.1 (O.2.2.2.2.1 _ hlink) (O.2.2.2.2.1 _ hstat) (O.2.2.2.2.1 _ hini) (O.2.2.2.2.1 _ hcode) hRm.1 hRm.2.1 hRm.2.2.1 hRm.2.2.2 hd (k H locs ls hH hS hl)
theorem z_min (O : zOK C cc nL Ts own) (hR : C.R = Rm) (hlink : Cond.methodLink own index Lib.Math.min.name ∈ Ts) (hstat : Cond.static Lib.Math.min.name ∈ Ts) (hini : Cond.initialized "java/lang/Math" ∈ Ts) (hcode : Cond.code Lib.Math.min.name Lib.Math.min.code 2 (some .int) ∈ Ts) (hRm : 1 ≤ Rm.frames ∧ (rest.map fun v => v.category).sum + 13 ≤ Rm.locals ∧ kc ≤ Rm.cells ∧ ks ≤ Rm.slots) {a b : Int32} (hd : decode cc pc = .ok (.invokestatic index, 3)) (k : Z C A Hp nL x lv kc ks (pc + 3) (.int (if b < a then b else a) :: rest)) : Z C A Hp nL x lv kc ks pc (.int b :: .int a :: rest) := by
  subst hR
  intro H locs ls hH hS hl
  exact va_mmin O.1 O.2.1 (O.2.2.1.trans hl.1.symm) O.2.2.2.1 (O.2.2.2.2.1 _ hlink) (O.2.2.2.2.1 _ hstat) (O.2.2.2.2.1 _ hini) (O.2.2.2.2.1 _ hcode) hRm.1 hRm.2.1 hRm.2.2.1 hRm.2.2.2 hd (k H locs ls hH hS hl)
end ZC2
section ZC3
variable {σ : Type} {C : zX} {A : Nat → Prop} {Hp : σ → Heap → Prop} {nL : Nat} {x : σ} {lv : List (Nat × Value)} {kc ks pc : Nat} {st rest : List Value} {cc : ByteArray} {Ts : List Cond} {own : String}
variable {y : MethodName} {ws ws' : List Cond} {rm Rm : Room} {mc ms n index maxL : Nat} {bytes : ByteArray} {ret : Option FieldType} {av As : List Value} {HH : Heap → Prop} {b : Nat} {host : String}
theorem zr_SN (O : zOK C cc nL Ts own) (hR : C.R = Rm) (n : Nat) (hG : GoodIn Ts ws) (hw : ws = Cond.code y bytes maxL ret :: ws') (hrc : rm.cells = mc) (hrs : rm.slots = ms) (hN : va_Nw (.methodLinkNest own index y host) C.s) (hini : Cond.initialized y.cls ∈ Ts) (hstat : Cond.static y ∈ Ts) (hd0 : y.cls ≠ "java/lang/invoke/MethodHandle" ∧ y.cls ≠ "java/lang/invoke/VarHandle" ∧ (parseMethodDescriptor y.desc).map (fun d => d.parameters.length) = some n) (hRm : rm.frames + 1 ≤ Rm.frames ∧ 8 + (maxL + 11) + rm.locals ≤ Rm.locals) (hcs : kc + mc ≤ Rm.cells ∧ ks + ms ≤ Rm.slots) (hn : As.length = n) (hst : st = As.reverse ++ rest) (hcat : (rest.map fun v => v.category).sum ≤ 8) (hd : decode cc pc = .ok (.invokestatic index, 3)) : zRun C nL y ws rm mc ms pc kc ks As st rest HH := by
  subst hR
  intro Pc Qc free hM hbl H locs ls hH hls hpre
  exact va_runSN ⟨O.1, O.2.1, O.2.2.1, O.2.2.2.1, O.2.2.2.2.1⟩ hM ⟨va_cnB n O.2.2.2.2.1 hG hw hrc hrs hN (O.2.2.2.2.1 _ hini) hd0 hRm, O.2.2.2.2.1 _ hstat, trivial⟩ ⟨hbl, hpre⟩ rfl hn hls hst (lv_room hcat) hd hcs
variable {Ks : State → Prop}
theorem z_cWR {B : Nat → Prop} {Q : Int32 → σ → Prop} (hKs : zKs Ks) (hK : Ks C.s) (hx : ∀ H, Hp x H → Hp x H) (hB : ∀ q, B q → A q) (hA : ∀ q, C.s.heap.size ≤ q → A q) (hM : zWR C.2.1 y ws rm Ks Hp B x av 0 0 Q) (hr : zRun C nL y ws rm 0 0 pc kc ks av st rest (Hp x)) (kk : ∀ (r : Int32) (u : σ), Q r u → Z C A Hp nL u lv kc ks (pc + 3) (.int r :: rest)) : Z C A Hp nL x lv kc ks pc st := z_callWR (fun u => u) hKs hK hx (fun _ _ _ _ _ _ h => h) hB hA hM hr kk
theorem z_cWL {B : Nat → Prop} {Q : Int64 → σ → Prop} (hKs : zKs Ks) (hK : Ks C.s) (hx : ∀ H, Hp x H → Hp x H) (hB : ∀ q, B q → A q) (hA : ∀ q, C.s.heap.size ≤ q → A q) (hM : zWL C.2.1 y ws rm Ks Hp B x av 0 0 Q) (hr : zRun C nL y ws rm 0 0 pc kc ks av st rest (Hp x)) (kk : ∀ (r : Int64) (u : σ), Q r u → Z C A Hp nL u lv kc ks (pc + 3) (.long r :: rest)) : Z C A Hp nL x lv kc ks pc st := z_callWL (fun u => u) hKs hK hx (fun _ _ _ _ _ _ h => h) hB hA hM hr kk
theorem z_cWV {B : Nat → Prop} {Q : σ → Prop} (hKs : zKs Ks) (hK : Ks C.s) (hx : ∀ H, Hp x H → Hp x H) (hB : ∀ q, B q → A q) (hA : ∀ q, C.s.heap.size ≤ q → A q) (hM : zWV C.2.1 y ws rm Ks Hp B x av 0 0 Q) (hr : zRun C nL y ws rm 0 0 pc kc ks av st rest (Hp x)) (kk : ∀ (u : σ), Q u → Z C A Hp nL u lv kc ks (pc + 3) rest) : Z C A Hp nL x lv kc ks pc st := z_callWV (fun u => u) hKs hK hx (fun _ _ _ _ _ _ h => h) hB hA hM hr kk
theorem z_tableIn (O : zOK C cc nL Ts own) {dflt lo hi : Int} {offs : Array Int} {len : Nat} {a v : Int32} {off : Int} (tgt : Nat) (hd : decode cc pc = .ok (.tableswitch dflt lo hi offs, len)) (hv : a = v) (h1 : ¬ v.toInt < lo) (h2 : ¬ hi < v.toInt) (ho : offs[(v.toInt - lo).toNat]? = some off) (ht : (pc : Int) + off = (tgt : Int)) (k : Z C A Hp nL x lv kc ks tgt st) : Z C A Hp nL x lv kc ks pc (.int a :: st) := by
  subst hv
  exact fun H locs ls hH hS hl => lv_tableIn O.1 O.2.1 hd h1 h2 ho ht (k H locs ls hH hS hl)
theorem z_tableOut (O : zOK C cc nL Ts own) {dflt lo hi : Int} {offs : Array Int} {len : Nat} {a : Int32} (tgt : Nat) (hd : decode cc pc = .ok (.tableswitch dflt lo hi offs, len)) (h : a.toInt < lo ∨ hi < a.toInt) (ht : (pc : Int) + dflt = (tgt : Int)) (k : Z C A Hp nL x lv kc ks tgt st) : Z C A Hp nL x lv kc ks pc (.int a :: st) := fun H locs ls hH hS hl => lv_tableOut O.1 O.2.1 hd h ht (k H locs ls hH hS hl)
theorem z_lookup (O : zOK C cc nL Ts own) {dflt : Int} {ps : Array (Int × Int)} {len : Nat} {a : Int32} {off : Int} (tgt : Nat) (hd : decode cc pc = .ok (.lookupswitch dflt ps, len)) (hp : (ps.toList.zip (ps.toList.drop 1)).all (fun (a, next) => a.1 < next.1) = true) (ho : Op.lookupswitch.offset ps.toList dflt a.toInt = off) (ht : (pc : Int) + off = (tgt : Int)) (k : Z C A Hp nL x lv kc ks tgt st) : Z C A Hp nL x lv kc ks pc (.int a :: st) := fun H locs ls hH hS hl => lv_lookup O.1 O.2.1 hd hp ho ht (k H locs ls hH hS hl)
end ZC3
/-! ===== worlds whose cells have numbers ===== -/
def wl (n : Nat) (ad : Nat → Nat) (e : Nat → va_E) : va_W := (List.range n).map (fun i => (ad i, e i))
theorem wl_get {n : Nat} {ad : Nat → Nat} {e : Nat → va_E} {i : Nat} (h : i < n) : (wl n ad e)[i]? = some (ad i, e i) := by
  simp [wl, h]
theorem wl_lt {n : Nat} {ad : Nat → Nat} {e : Nat → va_E} {i : Nat} {q : Nat × va_E} (h : (wl n ad e)[i]? = some q) : i < n ∧ q = (ad i, e i) := by
  have h1 := (List.getElem?_eq_some_iff.mp h).1
  have h2 : i < n := by simpa [wl] using h1
  rw [wl_get h2] at h
  exact ⟨h2, (Option.some.inj h).symm⟩
theorem wl_set {n : Nat} {ad : Nat → Nat} {e : Nat → va_E} {i : Nat} (v : va_E) : (wl n ad e).set i (ad i, v) = wl n ad (va_up e i v) := by
  apply List.ext_getElem?
  intro j
  by_cases hj : j < n
  · rw [wl_get hj]
    by_cases hij : i = j
    · subst hij
      rw [List.getElem?_set_self (by simpa [wl] using hj)]
      simp [va_up]
    · rw [List.getElem?_set_ne hij, wl_get hj]
      simp [va_up, Ne.symm hij]
  · rw [List.getElem?_eq_none (by simpa [wl] using Nat.not_lt.mp hj), List.getElem?_eq_none (by simpa [wl] using Nat.not_lt.mp hj)]
def wInj (n : Nat) (ad : Nat → Nat) : Prop := ∀ i j : Nat, i < n → j < n → ad i = ad j → i = j
def wB (n : Nat) (ad : Nat → Nat) : Nat → Prop := fun q => ∃ i : Nat, i < n ∧ q = ad i
theorem wl_D {n : Nat} {ad : Nat → Nat} {e : Nat → va_E} {A : Nat → Prop} (hI : wInj n ad) (hA : ∀ q, wB n ad q → A q) : va_D A (wl n ad e) := by
  refine ⟨fun i j p q hi hj hpq => ?_, fun k q hk => ?_⟩
  · obtain ⟨h1, rfl⟩ := wl_lt hi
    obtain ⟨h2, rfl⟩ := wl_lt hj
    exact hI i j h1 h2 hpq
  · obtain ⟨h1, rfl⟩ := wl_lt hk
    exact hA _ ⟨k, h1, rfl⟩
section ZW
variable {σ : Type} {C : zX} {A : Nat → Prop} {Hp : σ → Heap → Prop} {nL : Nat} {x x' : σ} {lv : List (Nat × Value)} {kc ks pc : Nat} {st : List Value} {cc : ByteArray} {Ts : List Cond} {own : String}
variable {D : va_G} {tys : List (ClassId × FieldType)} {n : Nat} {ad : Nat → Nat} {E : σ → Nat → va_E} {cI : ClassId}
theorem z_getf (O : zOK C cc nL Ts own) (hK : va_K D vwCl tys C.s) (hP : ∀ H, Hp x H → va_P D vwCl (wl n ad (E x)) H) {i ci : Nat} {fs : List Value} (hi : i < n) (he : E x i = .inr (ci, fs)) {Cn : String} {T : u_T} {N : Nat} (hc : vwCl[ci]? = some (Cn, T, N)) (hin : ∀ w ∈ u_ws Cn T N, w ∈ Ts) (k : Nat) (hk : k < N) {index : Nat} (hlink : Cond.fieldLink own index (T k).1 (T k).2.1 (T k).2.2.1 ∈ Ts) {v : Value} (hv : fs[k]? = some v) (hd : decode cc pc = .ok (.getfield index, 3)) (kk : Z C A Hp nL x lv kc ks (pc + 3) (v :: st)) : Z C A Hp nL x lv kc ks pc (.ref (ad i) :: st) := fun H locs ls hH hS hl =>
  va_get O.1 O.2.1 O.2.2.2.2.1 hin O.2.2.2.1 hK (hP H hH) i ((wl_get hi).trans (by rw [he])) hc k hk (O.2.2.2.2.1 _ hlink) (fun _ h => h) hv hd (kk H locs ls hH hS hl)
theorem z_putf (O : zOK C cc nL Ts own) (hK : va_K D vwCl tys C.s) (hP : ∀ H, Hp x H → va_P D vwCl (wl n ad (E x)) H) (hB : ∀ H, va_P D vwCl (wl n ad (E x')) H → Hp x' H) (hI : wInj n ad) (hA : ∀ q, wB n ad q → A q) {i ci : Nat} {fs : List Value} (hi : i < n) (he : E x i = .inr (ci, fs)) {Cn : String} {T : u_T} {N : Nat} (hc : vwCl[ci]? = some (Cn, T, N)) (hin : ∀ w ∈ u_ws Cn T N, w ∈ Ts) (ty0 : Nat → FieldType) (hty : ∀ k, k < N → parseFieldDescriptor (T k).2.2.1 = some (ty0 k)) (hnm : ∀ a, a < N → ∀ b, b < N → a ≠ b → (T a).2.1 ≠ (T b).2.1) (k : Nat) (hk : k < N) {index : Nat} (hlink : Cond.fieldLink own index (T k).1 (T k).2.1 (T k).2.2.1 ∈ Ts) (hfin : (T k).2.2.2 = false) {ty : FieldType} {v : Value} (hpd : parseFieldDescriptor (T k).2.2.1 = some ty) (hn : narrow ty v = v) (hfit : fits ty v = true) (hl0 : k < fs.length) (hx' : va_up (E x) i (.inr (ci, fs.set k v)) = E x') (hd : decode cc pc = .ok (.putfield index, 3)) (kk : Z C A Hp nL x' lv kc ks (pc + 3) st) : Z C A Hp nL x lv kc ks pc (v :: .ref (ad i) :: st) := fun H locs ls hH hS hl =>
  va_put O.1 O.2.1 O.2.2.2.2.1 hin ty0 hty hnm O.2.2.2.1 hK (hP H hH) (wl_D hI hA) hS i ((wl_get hi).trans (by rw [he])) hc k hk (O.2.2.2.2.1 _ hlink) (fun _ h => h) hfin hpd hn hfit hl0 hd (fun H1 locs1 h1 _ h3 => kk H1 locs1 ls (hB H1 (by rw [← hx', ← wl_set]; exact h1)) h3 hl)
theorem z_iald (O : zOK C cc nL Ts own) (hK : va_K D vwCl tys C.s) (hP : ∀ H, Hp x H → va_P D vwCl (wl n ad (E x)) H) (t0 : Nat) {i N : Nat} {cA : ClassId} {f : Nat → Int32} (hi : i < n) (he : E x i = .inl (cA, N, .inl f)) (ht : tys[t0]? = some (cA, .int)) {j : Int32} (hin : vp_in j N) (hd : decode cc pc = .ok (.iaload, 1)) (kk : Z C A Hp nL x lv kc ks (pc + 1) (.int (f j.toNatClampNeg) :: st)) : Z C A Hp nL x lv kc ks pc (.int j :: .ref (ad i) :: st) := fun H locs ls hH hS hl =>
  va_iald O.1 O.2.1 hK (hP H hH) i t0 ((wl_get hi).trans (by rw [he])) ht hin hd (kk H locs ls hH hS hl)
theorem z_lald (O : zOK C cc nL Ts own) (hK : va_K D vwCl tys C.s) (hP : ∀ H, Hp x H → va_P D vwCl (wl n ad (E x)) H) (t0 : Nat) {i N : Nat} {cA : ClassId} {f : Nat → Int64} (hi : i < n) (he : E x i = .inl (cA, N, .inr (.inl f))) (ht : tys[t0]? = some (cA, .long)) {j : Int32} (hin : vp_in j N) (hd : decode cc pc = .ok (.laload, 1)) (kk : Z C A Hp nL x lv kc ks (pc + 1) (.long (f j.toNatClampNeg) :: st)) : Z C A Hp nL x lv kc ks pc (.int j :: .ref (ad i) :: st) := fun H locs ls hH hS hl =>
  va_lald O.1 O.2.1 hK (hP H hH) i t0 ((wl_get hi).trans (by rw [he])) ht hin hd (kk H locs ls hH hS hl)
theorem z_aald (O : zOK C cc nL Ts own) (hK : va_K D vwCl tys C.s) (hP : ∀ H, Hp x H → va_P D vwCl (wl n ad (E x)) H) (t0 : Nat) {i N : Nat} {cA : ClassId} {Cn : String} {f : Nat → Option Nat} (hi : i < n) (he : E x i = .inl (cA, N, .inr (.inr (.inr (.inr f))))) (ht : tys[t0]? = some (cA, .object Cn)) {j : Int32} (hin : vp_in j N) {v : Value} (hv : va_rf (f j.toNatClampNeg) = v) (hd : decode cc pc = .ok (.aaload, 1)) (kk : Z C A Hp nL x lv kc ks (pc + 1) (v :: st)) : Z C A Hp nL x lv kc ks pc (.int j :: .ref (ad i) :: st) := fun H locs ls hH hS hl =>
  va_aldq O.1 O.2.1 hK (hP H hH) i t0 ((wl_get hi).trans (by rw [he])) ht hin hd (by rw [hv]; exact kk H locs ls hH hS hl)
theorem z_alen (O : zOK C cc nL Ts own) (hK : va_K D vwCl tys C.s) (hP : ∀ H, Hp x H → va_P D vwCl (wl n ad (E x)) H) (t0 : Nat) {i : Nat} {cA : ClassId} {a0 : vp_A} (hi : i < n) (he : E x i = .inl (cA, a0)) {ty : FieldType} (ht : tys[t0]? = some (cA, ty)) {v : Int32} (hv : Int32.ofNat a0.1 = v) (hd : decode cc pc = .ok (.arraylength, 1)) (kk : Z C A Hp nL x lv kc ks (pc + 1) (.int v :: st)) : Z C A Hp nL x lv kc ks pc (.ref (ad i) :: st) := fun H locs ls hH hS hl =>
  va_alen O.1 O.2.1 hK (hP H hH) i t0 ((wl_get hi).trans (by rw [he])) ht hv hd (kk H locs ls hH hS hl)
theorem z_iast (O : zOK C cc nL Ts own) (hK : va_K D vwCl tys C.s) (hP : ∀ H, Hp x H → va_P D vwCl (wl n ad (E x)) H) (hB : ∀ H, va_P D vwCl (wl n ad (E x')) H → Hp x' H) (hI : wInj n ad) (hA : ∀ q, wB n ad q → A q) (t0 : Nat) {i N : Nat} {cA : ClassId} {f : Nat → Int32} (hi : i < n) (he : E x i = .inl (cA, N, .inl f)) (ht : tys[t0]? = some (cA, .int)) {j v : Int32} (hin : vp_in j N) (hx' : va_up (E x) i (.inl (cA, N, .inl (upd f j.toNatClampNeg v))) = E x') (hd : decode cc pc = .ok (.iastore, 1)) (kk : Z C A Hp nL x' lv kc ks (pc + 1) st) : Z C A Hp nL x lv kc ks pc (.int v :: .int j :: .ref (ad i) :: st) := fun H locs ls hH hS hl =>
  va_iast O.1 O.2.1 hK (hP H hH) (wl_D hI hA) hS i t0 ((wl_get hi).trans (by rw [he])) ht hin hd (fun H1 locs1 h1 _ h3 => kk H1 locs1 ls (hB H1 (by rw [← hx', ← wl_set]; exact h1)) h3 hl)
theorem z_last (O : zOK C cc nL Ts own) (hK : va_K D vwCl tys C.s) (hP : ∀ H, Hp x H → va_P D vwCl (wl n ad (E x)) H) (hB : ∀ H, va_P D vwCl (wl n ad (E x')) H → Hp x' H) (hI : wInj n ad) (hA : ∀ q, wB n ad q → A q) (t0 : Nat) {i N : Nat} {cA : ClassId} {f : Nat → Int64} (hi : i < n) (he : E x i = .inl (cA, N, .inr (.inl f))) (ht : tys[t0]? = some (cA, .long)) {j : Int32} {v : Int64} (hin : vp_in j N) (hx' : va_up (E x) i (.inl (cA, N, .inr (.inl (vp_updL f j.toNatClampNeg v)))) = E x') (hd : decode cc pc = .ok (.lastore, 1)) (kk : Z C A Hp nL x' lv kc ks (pc + 1) st) : Z C A Hp nL x lv kc ks pc (.long v :: .int j :: .ref (ad i) :: st) := fun H locs ls hH hS hl =>
  va_last O.1 O.2.1 hK (hP H hH) (wl_D hI hA) hS i t0 ((wl_get hi).trans (by rw [he])) ht hin hd (fun H1 locs1 h1 _ h3 => kk H1 locs1 ls (hB H1 (by rw [← hx', ← wl_set]; exact h1)) h3 hl)
theorem z_aast (O : zOK C cc nL Ts own) (hK : va_K D vwCl tys C.s) (hP : ∀ H, Hp x H → va_P D vwCl (wl n ad (E x)) H) (hB : ∀ H, va_P D vwCl (wl n ad (E x')) H → Hp x' H) (hI : wInj n ad) (hA : ∀ q, wB n ad q → A q) (t0 : Nat) {i N o ci : Nat} {cA : ClassId} {f : Nat → Option Nat} {r : vw_C} {vs : List Value} (hi : i < n) (he : E x i = .inl (cA, N, .inr (.inr (.inr (.inr f))))) (ht : tys[t0]? = some (cA, .object r.1)) (ho : o < n) (hov : E x o = .inr (ci, vs)) (hc : vwCl[ci]? = some r) {j : Int32} (hin : vp_in j N) (hx' : va_up (E x) i (.inl (cA, N, .inr (.inr (.inr (.inr (va_up f j.toNatClampNeg (some (ad o)))))))) = E x') (hd : decode cc pc = .ok (.aastore, 1)) (kk : Z C A Hp nL x' lv kc ks (pc + 1) st) : Z C A Hp nL x lv kc ks pc (.ref (ad o) :: .int j :: .ref (ad i) :: st) := fun H locs ls hH hS hl =>
  va_astq O.1 O.2.1 hK (hP H hH) (wl_D hI hA) hS i t0 o ci ((wl_get hi).trans (by rw [he])) ht ((wl_get ho).trans (by rw [hov])) hc hin hd (fun H1 locs1 h1 _ h3 => kk H1 locs1 ls (hB H1 (by rw [← hx', ← wl_set]; exact h1)) h3 hl)
theorem z_recv {D : va_G} {s : State} {H : Heap} {i ci : Nat} {fs : List Value} {r : vw_C} {e : Nat → va_E} (hK : va_K D vwCl tys s) (hP : va_P D vwCl (wl n ad e) H) (hi : i < n) (he : e i = .inr (ci, fs)) (hc : vwCl[ci]? = some r) : ∃ cellB : Cell, H[ad i]? = some cellB ∧ cellB.vm.isStatics = false ∧ s.vm.findClass r.1 = some cellB.cls :=
  va_recv hK hP hc ((wl_get hi).trans (by rw [he]))
theorem z_getfN (O : zOK C cc nL Ts own) (hK : va_K D vwCl tys C.s) (hP : ∀ H, Hp x H → va_P D vwCl (wl n ad (E x)) H) {i ci : Nat} {fs : List Value} (hi : i < n) (he : E x i = .inr (ci, fs)) {Cn host : String} {T : u_T} {N : Nat} (hc : vwCl[ci]? = some (Cn, T, N)) (hin : ∀ w ∈ u_ws Cn T N, w ∈ Ts) (k : Nat) (hk : k < N) {index : Nat} (hlink : va_Nw (.fieldLinkNest own index (T k).1 (T k).2.1 (T k).2.2.1 host) C.s) {v : Value} (hv : fs[k]? = some v) (hd : decode cc pc = .ok (.getfield index, 3)) (kk : Z C A Hp nL x lv kc ks (pc + 3) (v :: st)) : Z C A Hp nL x lv kc ks pc (.ref (ad i) :: st) := fun H locs ls hH hS hl =>
  va_getN O.1 O.2.1 O.2.2.2.2.1 hin O.2.2.2.1 hK (hP H hH) i ((wl_get hi).trans (by rw [he])) hc k hk (va_Nw.use rfl hlink) (fun _ h => h) hv hd (kk H locs ls hH hS hl)
theorem z_putfN (O : zOK C cc nL Ts own) (hK : va_K D vwCl tys C.s) (hP : ∀ H, Hp x H → va_P D vwCl (wl n ad (E x)) H) (hB : ∀ H, va_P D vwCl (wl n ad (E x')) H → Hp x' H) (hI : wInj n ad) (hA : ∀ q, wB n ad q → A q) {i ci : Nat} {fs : List Value} (hi : i < n) (he : E x i = .inr (ci, fs)) {Cn host : String} {T : u_T} {N : Nat} (hc : vwCl[ci]? = some (Cn, T, N)) (hin : ∀ w ∈ u_ws Cn T N, w ∈ Ts) (ty0 : Nat → FieldType) (hty : ∀ k, k < N → parseFieldDescriptor (T k).2.2.1 = some (ty0 k)) (hnm : ∀ a, a < N → ∀ b, b < N → a ≠ b → (T a).2.1 ≠ (T b).2.1) (k : Nat) (hk : k < N) {index : Nat} (hlink : va_Nw (.fieldLinkNest own index (T k).1 (T k).2.1 (T k).2.2.1 host) C.s) (hfin : (T k).2.2.2 = false) {ty : FieldType} {v : Value} (hpd : parseFieldDescriptor (T k).2.2.1 = some ty) (hn : narrow ty v = v) (hfit : fits ty v = true) (hl0 : k < fs.length) (hx' : va_up (E x) i (.inr (ci, fs.set k v)) = E x') (hd : decode cc pc = .ok (.putfield index, 3)) (kk : Z C A Hp nL x' lv kc ks (pc + 3) st) : Z C A Hp nL x lv kc ks pc (v :: .ref (ad i) :: st) := fun H locs ls hH hS hl =>
  va_putN O.1 O.2.1 O.2.2.2.2.1 hin ty0 hty hnm O.2.2.2.1 hK (hP H hH) (wl_D hI hA) hS i ((wl_get hi).trans (by rw [he])) hc k hk (va_Nw.use rfl hlink) (fun _ h => h) hfin hpd hn hfit hl0 hd (fun H1 locs1 h1 _ h3 => kk H1 locs1 ls (hB H1 (by rw [← hx', ← wl_set]; exact h1)) h3 hl)
theorem z_acopy {Rm : Room} (O : zOK C cc nL Ts own) (hR : C.R = Rm) (hK : va_K D vwCl tys C.s) (hP : ∀ H, Hp x H → va_P D vwCl (wl n ad (E x)) H) (hB : ∀ H, va_P D vwCl (wl n ad (E x')) H → Hp x' H) (hI : wInj n ad) (hA : ∀ q, wB n ad q → A q) (ht : tys[0]? = some (cI, .int)) {i0 i1 N0 N1 : Nat} {f g : Nat → Int32} (hi0 : i0 < n) (he0 : E x i0 = .inl (cI, N0, .inl f)) (hi1 : i1 < n) (he1 : E x i1 = .inl (cI, N1, .inl g)) {index : Nat} (hlink : Cond.methodLink own index arraycopyName ∈ Ts) (hnat : Cond.native arraycopyName ∈ Ts) (hstat : Cond.static arraycopyName ∈ Ts) (hini : Cond.initialized "java/lang/System" ∈ Ts) {sp dp m : Int32} (h1 : ¬ sp < 0) (h2 : ¬ dp < 0) (h3 : ¬ m < 0) (h4 : sp.toNatClampNeg + m.toNatClampNeg ≤ N0) (h5 : dp.toNatClampNeg + m.toNatClampNeg ≤ N1) (hRm : 1 ≤ Rm.frames ∧ (st.map fun v => v.category).sum + (nativeFrameWords "java/lang/System" "arraycopy" 5 + 11) ≤ Rm.locals) (hx' : va_up (E x) i1 (.inl (cI, N1, .inl (va_cpy f g sp.toNatClampNeg dp.toNatClampNeg m.toNatClampNeg))) = E x') (hd : decode cc pc = .ok (.invokestatic index, 3)) (kk : Z C A Hp nL x' lv kc ks (pc + 3) st) : Z C A Hp nL x lv kc ks pc (.int m :: .int dp :: .ref (ad i1) :: .int sp :: .ref (ad i0) :: st) := by
  subst hR
  exact fun H locs ls hH hS hl => va_copyi O.1 O.2.1 (O.2.2.1.trans hl.1.symm) O.2.2.2.1 (O.2.2.2.2.1 _ hlink) (O.2.2.2.2.1 _ hnat) (O.2.2.2.2.1 _ hstat) (O.2.2.2.2.1 _ hini) hK (hP H hH) (wl_D hI hA) hS i0 i1 0 0 ((wl_get hi0).trans (by rw [he0])) ((wl_get hi1).trans (by rw [he1])) ht ht rfl h1 h2 h3 h4 h5 (fun _ _ => rfl) hRm.1 hRm.2 hd (fun H1 locs1 k1 _ k3 => kk H1 locs1 ls (hB H1 (by rw [← hx', ← wl_set]; exact k1)) k3 hl)
end ZW
end
section
/-! ===== the two worlds: 161 cells of the class's object, 18 of the reference's ===== -/
/-- by a cell's number: what its int fields hold, its ints (a row), its cells' numbers (a row of cells) -/
abbrev XS := (Nat → Nat → Int32) × (Nat → Nat → Int32) × (Nat → Nat → Nat)
def xI (x : XS) (i k : Nat) (v : Int32) : XS := (fun a b => if a = i ∧ b = k then v else x.1 a b, x.2.1, x.2.2)
def xA (x : XS) (t : Nat) (f : Nat → Int32) : XS := (x.1, va_up x.2.1 t f, x.2.2)
def xP (x : XS) (t : Nat) (f : Nat → Nat) : XS := (x.1, x.2.1, va_up x.2.2 t f)
def xlt (k : Nat) : Nat := if k = 0 then 7 else if k = 1 then 3 else if k = 2 then 5 else if k = 3 then 10 else if k = 4 then 1 else if k = 5 then 8 else if k = 6 then 0 else 4
/-- what a cell is: a class's number; 20 ints, 21 layers, 22 cells, 23 shelves -/
def xtag (i : Nat) : Nat := if i = 0 then 11 else if i = 1 then 21 else if i < 10 then xlt (i - 2) else if i = 10 then 23 else if i < 27 then (if i % 2 = 1 then 9 else 20) else if i < 29 then 20 else if (i - 29) % 44 = 0 then 6 else if (i - 29) % 44 = 1 then 22 else if ((i - 29) % 44 - 2) % 7 = 0 then 2 else 20
def xlen (i : Nat) : Nat := if i = 27 then 6 else if i = 28 then 10 else if i < 27 then 100 else 8
def xk (i c : Nat) : Prop := i < 161 ∧ xtag i = c
def xfl2 (ad : Nat → Nat) (x : XS) (i : Nat) : List Value := [.ref (ad (i + 1)), .ref (ad (i + 2)), .ref (ad (i + 3)), .ref (ad (i + 4)), .ref (ad (i + 5)), .ref (ad (i + 6)), .int (x.1 i 6)]
def xfl6 (ad : Nat → Nat) (x : XS) (i : Nat) : List Value := [.ref (ad 1), .ref (ad (i + 1)), .int (x.1 i 2)]
def xfl9 (ad : Nat → Nat) (x : XS) (i : Nat) : List Value := [.ref (ad (i + 1)), .int (x.1 i 1), .int (x.1 i 2), .int (x.1 i 3), .int (x.1 i 4), .int (x.1 i 5)]
def xfl11 (ad : Nat → Nat) (x : XS) (i : Nat) : List Value := [.ref (ad 1), .ref (ad 29), .ref (ad 73), .ref (ad 117), .ref (ad 10), .ref (ad 27), .ref (ad 28), .int (x.1 i 7), .int (x.1 i 8)]
def XE (cs : Nat → ClassId) (ad : Nat → Nat) (x : XS) (i : Nat) : va_E :=
  if xtag i = 20 then .inl (cs 0, xlen i, .inl (x.2.1 i))
  else if xtag i = 21 then .inl (cs 1, 8, .inr (.inr (.inr (.inr (fun k => some (ad (2 + k)))))))
  else if xtag i = 22 then .inl (cs 2, 6, .inr (.inr (.inr (.inr (fun k => some (ad (x.2.2 i k)))))))
  else if xtag i = 23 then .inl (cs 3, 8, .inr (.inr (.inr (.inr (fun k => some (ad (11 + 2 * k)))))))
  else if xtag i = 2 then .inr (2, xfl2 ad x i)
  else if xtag i = 6 then .inr (6, xfl6 ad x i)
  else if xtag i = 9 then .inr (9, xfl9 ad x i)
  else if xtag i = 11 then .inr (11, xfl11 ad x i)
  else .inr (xtag i, [])
section XL
variable {cs : Nat → ClassId} {ad : Nat → Nat} {x : XS} {i t b : Nat}
theorem xe_20 (h : xk t 20) : XE cs ad x t = .inl (cs 0, xlen t, .inl (x.2.1 t)) := by simp [XE, h.2]
theorem xe_21 : XE cs ad x 1 = .inl (cs 1, 8, .inr (.inr (.inr (.inr (fun k => some (ad (2 + k))))))) := by simp [XE, xtag]
theorem xe_22 (h : xk t 22) : XE cs ad x t = .inl (cs 2, 6, .inr (.inr (.inr (.inr (fun k => some (ad (x.2.2 t k))))))) := by simp [XE, h.2]
theorem xe_23 : XE cs ad x 10 = .inl (cs 3, 8, .inr (.inr (.inr (.inr (fun k => some (ad (11 + 2 * k))))))) := by simp [XE, xtag]
theorem xe_2 (h : xk b 2) : XE cs ad x b = .inr (2, xfl2 ad x b) := by simp [XE, h.2]
theorem xe_6 (h : xk b 6) : XE cs ad x b = .inr (6, xfl6 ad x b) := by simp [XE, h.2]
theorem xe_9 (h : xk b 9) : XE cs ad x b = .inr (9, xfl9 ad x b) := by simp [XE, h.2]
theorem xe_11 : XE cs ad x 0 = .inr (11, xfl11 ad x 0) := by simp [XE, xtag]
theorem xe_ly {k : Nat} (h : k < 8) : XE cs ad x (2 + k) = .inr (xlt k, []) := by
  rcases (show k = 0 ∨ k = 1 ∨ k = 2 ∨ k = 3 ∨ k = 4 ∨ k = 5 ∨ k = 6 ∨ k = 7 by omega) with rfl | rfl | rfl | rfl | rfl | rfl | rfl | rfl <;> simp [XE, xtag, xlt]
theorem xe_setA (h : xk t 20) (f : Nat → Int32) : va_up (XE cs ad x) t (.inl (cs 0, xlen t, .inl f)) = XE cs ad (xA x t f) := by
  funext j
  by_cases hj : j = t
  · subst hj; simp [va_up, XE, xA, h.2]
  · simp [va_up, XE, xA, hj, xfl2, xfl6, xfl9, xfl11]
theorem xe_setP (h : xk t 22) (j o : Nat) : va_up (XE cs ad x) t (.inl (cs 2, 6, .inr (.inr (.inr (.inr (va_up (fun k => some (ad (x.2.2 t k))) j (some (ad o)))))))) = XE cs ad (xP x t (va_up (x.2.2 t) j o)) := by
  funext i
  by_cases hj : i = t
  · subst hj
    simp only [va_up, XE, xP, h.2, if_true]
    simp only [show ¬ (22 = 20) by decide, show ¬ (22 = 21) by decide, if_false, if_true]
    congr 6
    funext k
    by_cases hk : k = j <;> simp [hk]
  · simp [va_up, XE, xP, hj, xfl2, xfl6, xfl9, xfl11]
theorem xe_put2_6 (h : xk b 2) (v : Int32) : va_up (XE cs ad x) b (.inr (2, (xfl2 ad x b).set 6 (.int v))) = XE cs ad (xI x b 6 v) := by
  funext j
  by_cases hj : j = b
  · subst hj; simp [va_up, XE, xI, h.2, xfl2]
  · simp [va_up, XE, xI, hj, xfl2, xfl6, xfl9, xfl11]
theorem xe_put6_2 (h : xk b 6) (v : Int32) : va_up (XE cs ad x) b (.inr (6, (xfl6 ad x b).set 2 (.int v))) = XE cs ad (xI x b 2 v) := by
  funext j
  by_cases hj : j = b
  · subst hj; simp [va_up, XE, xI, h.2, xfl6]
  · simp [va_up, XE, xI, hj, xfl2, xfl6, xfl9, xfl11]
theorem xe_put9_1 (h : xk b 9) (v : Int32) : va_up (XE cs ad x) b (.inr (9, (xfl9 ad x b).set 1 (.int v))) = XE cs ad (xI x b 1 v) := by
  funext j
  by_cases hj : j = b
  · subst hj; simp [va_up, XE, xI, h.2, xfl9]
  · simp [va_up, XE, xI, hj, xfl2, xfl6, xfl9, xfl11]
theorem xe_put9_2 (h : xk b 9) (v : Int32) : va_up (XE cs ad x) b (.inr (9, (xfl9 ad x b).set 2 (.int v))) = XE cs ad (xI x b 2 v) := by
  funext j
  by_cases hj : j = b
  · subst hj; simp [va_up, XE, xI, h.2, xfl9]
  · simp [va_up, XE, xI, hj, xfl2, xfl6, xfl9, xfl11]
theorem xe_put9_3 (h : xk b 9) (v : Int32) : va_up (XE cs ad x) b (.inr (9, (xfl9 ad x b).set 3 (.int v))) = XE cs ad (xI x b 3 v) := by
  funext j
  by_cases hj : j = b
  · subst hj; simp [va_up, XE, xI, h.2, xfl9]
  · simp [va_up, XE, xI, hj, xfl2, xfl6, xfl9, xfl11]
theorem xe_put9_4 (h : xk b 9) (v : Int32) : va_up (XE cs ad x) b (.inr (9, (xfl9 ad x b).set 4 (.int v))) = XE cs ad (xI x b 4 v) := by
  funext j
  by_cases hj : j = b
  · subst hj; simp [va_up, XE, xI, h.2, xfl9]
  · simp [va_up, XE, xI, hj, xfl2, xfl6, xfl9, xfl11]
theorem xe_put9_5 (h : xk b 9) (v : Int32) : va_up (XE cs ad x) b (.inr (9, (xfl9 ad x b).set 5 (.int v))) = XE cs ad (xI x b 5 v) := by
  funext j
  by_cases hj : j = b
  · subst hj; simp [va_up, XE, xI, h.2, xfl9]
  · simp [va_up, XE, xI, hj, xfl2, xfl6, xfl9, xfl11]
theorem xe_put11_7 (v : Int32) : va_up (XE cs ad x) 0 (.inr (11, (xfl11 ad x 0).set 7 (.int v))) = XE cs ad (xI x 0 7 v) := by
  funext j
  by_cases hj : j = 0
  · subst hj; simp [va_up, XE, xI, xtag, xfl11]
  · simp [va_up, XE, xI, hj, xfl2, xfl6, xfl9, xfl11]
theorem xe_put11_8 (v : Int32) : va_up (XE cs ad x) 0 (.inr (11, (xfl11 ad x 0).set 8 (.int v))) = XE cs ad (xI x 0 8 v) := by
  funext j
  by_cases hj : j = 0
  · subst hj; simp [va_up, XE, xI, xtag, xfl11]
  · simp [va_up, XE, xI, hj, xfl2, xfl6, xfl9, xfl11]
end XL
theorem xk_c0 : ∀ b, b < 161 → xtag b = 2 → b + 6 < 161 ∧ ∀ j, j < 7 → 1 ≤ j → xtag (b + j) = 20 ∧ xlen (b + j) = 8 := by decide +kernel
theorem xk_l0 : ∀ b, b < 161 → xtag b = 6 → b + 1 < 161 ∧ xtag (b + 1) = 22 := by decide +kernel
theorem xk_s0 : ∀ b, b < 161 → xtag b = 9 → b + 1 < 161 ∧ xtag (b + 1) = 20 ∧ xlen (b + 1) = 100 := by decide +kernel
theorem xk_c {b j : Nat} (h : xk b 2) (h1 : 1 ≤ j) (h2 : j < 7) : xk (b + j) 20 := ⟨Nat.lt_of_le_of_lt (Nat.add_le_add_left (Nat.le_of_lt_succ h2) b) (xk_c0 b h.1 h.2).1, ((xk_c0 b h.1 h.2).2 j h2 h1).1⟩
theorem xk_cl {b j : Nat} (h : xk b 2) (h1 : 1 ≤ j) (h2 : j < 7) : xlen (b + j) = 8 := ((xk_c0 b h.1 h.2).2 j h2 h1).2
theorem xk_l {b : Nat} (h : xk b 6) : xk (b + 1) 22 := xk_l0 b h.1 h.2
theorem xk_s {b : Nat} (h : xk b 9) : xk (b + 1) 20 := ⟨(xk_s0 b h.1 h.2).1, (xk_s0 b h.1 h.2).2.1⟩
theorem xk_sl {b : Nat} (h : xk b 9) : xlen (b + 1) = 100 := (xk_s0 b h.1 h.2).2.2
theorem xk_11 : xk 0 11 := ⟨by decide, by decide⟩
theorem xk_29 : xk 29 6 := ⟨by decide, by decide⟩
theorem xk_73 : xk 73 6 := ⟨by decide, by decide⟩
theorem xk_117 : xk 117 6 := ⟨by decide, by decide⟩
theorem xk_27 : xk 27 20 := ⟨by decide, by decide⟩
theorem xk_28 : xk 28 20 := ⟨by decide, by decide⟩
theorem xk_in {j : Int32} {N : Nat} (h : vp_in j N) : j.toNatClampNeg < N := Nat.lt_of_not_le (fun q => h (Or.inr q))
theorem xk_sh0 : ∀ k, k < 8 → xk (11 + 2 * k) 9 := by unfold xk; decide +kernel
theorem xk_ly {k : Nat} (h : k < 8) : 2 + k < 161 := by omega
theorem xl_27 : xlen 27 = 6 := by decide
theorem xl_28 : xlen 28 = 10 := by decide
/-- a truth value -/
def zb (v : Int32) : Prop := v = 0 ∨ v = 1
theorem zb_n {v : Int32} (h : zb v) : narrow .boolean (.int v) = .int v := by rcases h with rfl | rfl <;> rfl
theorem zb_f {v : Int32} (h : zb v) : fits .boolean (.int v) = true := by rcases h with rfl | rfl <;> rfl
def gT (cs : Nat → ClassId) : List (ClassId × FieldType) := [(cs 0, .int), (cs 1, .object "SaidInWinter$Layer"), (cs 2, .object "SaidInWinter$Cell"), (cs 3, .object "SaidInWinter$Shelf"), (cs 4, .long)]
def nestF : List (String × Nat × String × String × String × String) := [("SaidInWinter$Lake", 50, "SaidInWinter$Cell", "layers", "I", "SaidInWinter"), ("SaidInWinter", 126, "SaidInWinter$Cell", "layers", "I", "SaidInWinter"), ("SaidInWinter", 223, "SaidInWinter$Lake", "winter", "I", "SaidInWinter"), ("SaidInWinter", 245, "SaidInWinter$Shelf", "elements", "[I", "SaidInWinter"), ("SaidInWinter", 232, "SaidInWinter$Shelf", "held", "I", "SaidInWinter"), ("SaidInWinter", 93, "SaidInWinter$Shelf", "kind", "I", "SaidInWinter"), ("SaidInWinter", 96, "SaidInWinter$Shelf", "oath", "I", "SaidInWinter"), ("SaidInWinter", 74, "SaidInWinter$Shelf", "sort", "I", "SaidInWinter"), ("SaidInWinter", 290, "SaidInWinter$Shelf", "size", "I", "SaidInWinter")]
def nestM : List (String × Nat × MethodName × String) := [("SaidInWinter", 9, ⟨"SaidInWinter$Layer", "<init>", "()V"⟩, "SaidInWinter"), ("SaidInWinter", 12, ⟨"SaidInWinter$Clear", "<init>", "()V"⟩, "SaidInWinter"), ("SaidInWinter$Clear", 1, ⟨"SaidInWinter$Layer", "<init>", "()V"⟩, "SaidInWinter"), ("SaidInWinter", 15, ⟨"SaidInWinter$Forged", "<init>", "()V"⟩, "SaidInWinter"), ("SaidInWinter$Forged", 1, ⟨"SaidInWinter$Layer", "<init>", "()V"⟩, "SaidInWinter"), ("SaidInWinter", 18, ⟨"SaidInWinter$Snow", "<init>", "()V"⟩, "SaidInWinter"), ("SaidInWinter$Snow", 1, ⟨"SaidInWinter$Layer", "<init>", "()V"⟩, "SaidInWinter"), ("SaidInWinter", 21, ⟨"SaidInWinter$Bubbly", "<init>", "()V"⟩, "SaidInWinter"), ("SaidInWinter$Bubbly", 1, ⟨"SaidInWinter$Clear", "<init>", "()V"⟩, "SaidInWinter"), ("SaidInWinter", 24, ⟨"SaidInWinter$Salt", "<init>", "()V"⟩, "SaidInWinter"), ("SaidInWinter$Salt", 1, ⟨"SaidInWinter$Snow", "<init>", "()V"⟩, "SaidInWinter"), ("SaidInWinter", 27, ⟨"SaidInWinter$Black", "<init>", "()V"⟩, "SaidInWinter"), ("SaidInWinter$Black", 1, ⟨"SaidInWinter$Clear", "<init>", "()V"⟩, "SaidInWinter"), ("SaidInWinter", 30, ⟨"SaidInWinter$Cracked", "<init>", "()V"⟩, "SaidInWinter"), ("SaidInWinter$Cracked", 1, ⟨"SaidInWinter$Snow", "<init>", "()V"⟩, "SaidInWinter"), ("SaidInWinter$Lake", 21, ⟨"SaidInWinter$Cell", "<init>", "()V"⟩, "SaidInWinter"), ("SaidInWinter", 58, ⟨"SaidInWinter$Shelf", "<init>", "()V"⟩, "SaidInWinter"), ("SaidInWinter$Shelf", 45, ⟨"SaidInWinter", "within", "(III)Z"⟩, "SaidInWinter"), ("SaidInWinter$Lake", 22, ⟨"SaidInWinter", "within", "(III)Z"⟩, "SaidInWinter"), ("SaidInWinter$Lake", 38, ⟨"SaidInWinter", "isKindAndOath", "(II)Z"⟩, "SaidInWinter"), ("SaidInWinter$Lake", 42, ⟨"SaidInWinter", "kindOf", "([LSaidInWinter$Layer;I)LSaidInWinter$Layer;"⟩, "SaidInWinter"), ("SaidInWinter$Cell", 84, ⟨"SaidInWinter", "within", "(III)Z"⟩, "SaidInWinter")]
def gK (D : va_G) (cs : Nat → ClassId) (U : State) : Prop := va_K D vwCl (gT cs) U ∧ (∀ q ∈ nestF, va_Nw (.fieldLinkNest q.1 q.2.1 q.2.2.1 q.2.2.2.1 q.2.2.2.2.1 q.2.2.2.2.2) U) ∧ (∀ q ∈ nestM, va_Nw (.methodLinkNest q.1 q.2.1 q.2.2.1 q.2.2.2) U)
theorem gKs (D : va_G) (cs : Nat → ClassId) : zKs (gK D cs) := fun _ _ h k => ⟨va_K.moved h.alike k.1, fun q hq => va_Nw.warmF h (k.2.1 q hq), fun q hq => va_Nw.warmM h (k.2.2 q hq)⟩
def XH (D : va_G) (cs : Nat → ClassId) (ad : Nat → Nat) (x : XS) (H : Heap) : Prop := va_P D vwCl (wl 161 ad (XE cs ad x)) H
/-! the reference: 0 is its object, 1 to 15 rows of ints, 16 and 17 of longs -/
abbrev MS := (Nat → Int32) × (Nat → Nat → Int32) × (Nat → Nat → Int64) × Option Nat
def mI (m : MS) (k : Nat) (v : Int32) : MS := (fun j => if j = k then v else m.1 j, m.2)
def mA (m : MS) (t : Nat) (f : Nat → Int32) : MS := (m.1, va_up m.2.1 t f, m.2.2)
def mJ (m : MS) (t : Nat) (f : Nat → Int64) : MS := (m.1, m.2.1, va_up m.2.2.1 t f, m.2.2.2)
def mR (m : MS) (o : Option Nat) : MS := (m.1, m.2.1, m.2.2.1, o)
def mlen (t : Nat) : Nat := if t = 1 then 6 else if t < 6 then 48 else if t < 8 then 199 else if t < 10 then 51 else if t = 10 then 204 else if t < 16 then 8 else if t = 16 then 800 else 100
def mfl (ad : Nat → Nat) (m : MS) : List Value := [.int (m.1 0), .ref (ad 1), .ref (ad 2), .ref (ad 3), .ref (ad 4), .ref (ad 5), .int (m.1 6), .ref (ad 6), .ref (ad 7), .int (m.1 9), .int (m.1 10), .int (m.1 11), va_re ad m.2.2.2, .int (m.1 13), .int (m.1 14), .int (m.1 15), .int (m.1 16), .int (m.1 17), .ref (ad 8), .ref (ad 9), .ref (ad 10), .int (m.1 21), .ref (ad 11), .ref (ad 12), .ref (ad 13), .ref (ad 14), .ref (ad 15), .ref (ad 16), .ref (ad 17)]
def ME (cs : Nat → ClassId) (ad : Nat → Nat) (m : MS) (i : Nat) : va_E := if i = 0 then .inr (12, mfl ad m) else if i < 16 then .inl (cs 0, mlen i, .inl (m.2.1 i)) else .inl (cs 4, mlen i, .inr (.inl (m.2.2.1 i)))
def MH (D : va_G) (cs : Nat → ClassId) (ad : Nat → Nat) (m : MS) (H : Heap) : Prop := va_P D vwCl (wl 18 ad (ME cs ad m)) H
def mk (t : Nat) : Prop := 1 ≤ t ∧ t < 16
section MLs
variable {cs : Nat → ClassId} {ad : Nat → Nat} {m : MS} {t : Nat}
theorem me_0 : ME cs ad m 0 = .inr (12, mfl ad m) := by simp [ME]
theorem me_A (h : mk t) : ME cs ad m t = .inl (cs 0, mlen t, .inl (m.2.1 t)) := by simp [ME, h.2, Nat.pos_iff_ne_zero.mp h.1]
theorem me_16 : ME cs ad m 16 = .inl (cs 4, mlen 16, .inr (.inl (m.2.2.1 16))) := by simp [ME]
theorem me_17 : ME cs ad m 17 = .inl (cs 4, mlen 17, .inr (.inl (m.2.2.1 17))) := by simp [ME]
theorem mk_lt (h : mk t) : t < 18 := Nat.lt_trans h.2 (by decide)
theorem me_setA (h : mk t) (f : Nat → Int32) : va_up (ME cs ad m) t (.inl (cs 0, mlen t, .inl f)) = ME cs ad (mA m t f) := by
  funext j
  by_cases hj : j = t
  · subst hj; simp [va_up, ME, mA, h.2, Nat.pos_iff_ne_zero.mp h.1]
  · simp [va_up, ME, mA, hj, mfl]
theorem me_setJ16 (f : Nat → Int64) : va_up (ME cs ad m) 16 (.inl (cs 4, mlen 16, .inr (.inl f))) = ME cs ad (mJ m 16 f) := by
  funext j
  by_cases hj : j = 16
  · subst hj; simp [va_up, ME, mJ]
  · simp [va_up, ME, mJ, hj, mfl]
theorem me_setJ17 (f : Nat → Int64) : va_up (ME cs ad m) 17 (.inl (cs 4, mlen 17, .inr (.inl f))) = ME cs ad (mJ m 17 f) := by
  funext j
  by_cases hj : j = 17
  · subst hj; simp [va_up, ME, mJ]
  · simp [va_up, ME, mJ, hj, mfl]
theorem me_put {m' : MS} {fs : List Value} (h : fs = mfl ad m') (h2 : m'.2.1 = m.2.1) (h3 : m'.2.2.1 = m.2.2.1) : va_up (ME cs ad m) 0 (.inr (12, fs)) = ME cs ad m' := by
  funext j
  by_cases hj : j = 0
  · subst hj; simp [va_up, ME, h]
  · simp [va_up, ME, hj, h2, h3]
end MLs
theorem xin {t N : Nat} {j : Int32} (e : xlen t = N) (h : vp_in j N) : vp_in j (xlen t) := by rw [e]; exact h
theorem xl8 {k : Nat} (h : k < 8) : k = 0 ∨ k = 1 ∨ k = 2 ∨ k = 3 ∨ k = 4 ∨ k = 5 ∨ k = 6 ∨ k = 7 := by omega
theorem xl_r {k : Nat} (h : k < 8) : ∃ r : vw_C, vwCl[xlt k]? = some r := by
  rcases xl8 h with rfl | rfl | rfl | rfl | rfl | rfl | rfl | rfl <;> exact ⟨_, rfl⟩
theorem mk_1 : mk 1 := ⟨by decide, by decide⟩
theorem mk_2 : mk 2 := ⟨by decide, by decide⟩
theorem mk_3 : mk 3 := ⟨by decide, by decide⟩
theorem mk_4 : mk 4 := ⟨by decide, by decide⟩
theorem mk_5 : mk 5 := ⟨by decide, by decide⟩
theorem mk_6 : mk 6 := ⟨by decide, by decide⟩
theorem mk_7 : mk 7 := ⟨by decide, by decide⟩
theorem mk_8 : mk 8 := ⟨by decide, by decide⟩
theorem mk_9 : mk 9 := ⟨by decide, by decide⟩
theorem mk_10 : mk 10 := ⟨by decide, by decide⟩
theorem mk_11 : mk 11 := ⟨by decide, by decide⟩
theorem mk_12 : mk 12 := ⟨by decide, by decide⟩
theorem mk_13 : mk 13 := ⟨by decide, by decide⟩
theorem mk_14 : mk 14 := ⟨by decide, by decide⟩
theorem mk_15 : mk 15 := ⟨by decide, by decide⟩
end
